set_option maxHeartbeats 4000000 in
theorem BX11_feed_0 {d : Nat} {Z : zZ} {I : zI} {J : zJ} {o : zO} {t u : Nat} (x1 : Int32) (x2 : Int32) (x3 : Int32) (x4 : Int32) (x5 : Int32) (hL : zLY Z t u)  (h : ((((I 0 1) + 20) ≤ 2000 → (∃ (I1 : zI), zE (d + 1) kX11_putWord 0 [some (.ref 0), some (.int x1), none] [] Z I J (none, Z, I1, J) ∧ (∃ (I2 : zI), zE (d + 1) kX11_putWord 0 [some (.ref 0), some (.int x2), none] [] Z I1 J (none, Z, I2, J) ∧ (∃ (I3 : zI), zE (d + 1) kX11_putWord 0 [some (.ref 0), some (.int x3), none] [] Z I2 J (none, Z, I3, J) ∧ (∃ (I4 : zI), zE (d + 1) kX11_putWord 0 [some (.ref 0), some (.int x4), none] [] Z I3 J (none, Z, I4, J) ∧ (∃ (I5 : zI), zE (d + 1) kX11_putWord 0 [some (.ref 0), some (.int x5), none] [] Z I4 J (none, Z, I5, J) ∧ o = (some (.int (I5 0 1)), Z, I5, J))))))) ∧ (¬ ((I 0 1) + 20) ≤ 2000 → o = (some (.int (-1)), Z, I, J)))) : zE (d + 2) kX11_feed 0 [some (.ref 0), some (.int x1), some (.int x2), some (.int x3), some (.int x4), some (.int x5)] [] Z I J o := by
  refine ex_step (pc' := 1) dX11_feed_0 rfl ?_
  refine ex_geti dX11_feed_1 wf_RX11_87 (ly_a0 hL) rfl ?_
  refine ex_step (pc' := 6) (st' := [.int 20, .int (I 0 1)]) dX11_feed_4 rfl ?_
  refine ex_step (pc' := 7) dX11_feed_6 rfl ?_
  refine ex_step (pc' := 10) (st' := [.int 2000, .int ((I 0 1) + 20)]) dX11_feed_7 rfl ?_
  refine ex_icmp (pc' := 15) dX11_feed_10 (by decide) (fun c => ?_) (fun c => ?_)
  · have h := h.1 c
    refine ex_step (pc' := 16) dX11_feed_15 rfl ?_
    refine ex_step (pc' := 17) dX11_feed_16 rfl ?_
    obtain ⟨I1, hc, h⟩ := h
    refine ex_callV (as := [.int x1]) (st := []) (ci := 11) dX11_feed_17 zmX11_putWord zl_RX11_90 ziX11_putWord zvX11_putWord (by decide) (ly_a0 hL) rfl (Nat.le_of_ble_eq_true rfl) (Nat.le_of_ble_eq_true rfl) hc ?_
    refine ex_step (pc' := 21) dX11_feed_20 rfl ?_
    refine ex_step (pc' := 22) dX11_feed_21 rfl ?_
    obtain ⟨I2, hc, h⟩ := h
    refine ex_callV (as := [.int x2]) (st := []) (ci := 11) dX11_feed_22 zmX11_putWord zl_RX11_90 ziX11_putWord zvX11_putWord (by decide) (ly_a0 hL) rfl (Nat.le_of_ble_eq_true rfl) (Nat.le_of_ble_eq_true rfl) hc ?_
    refine ex_step (pc' := 26) dX11_feed_25 rfl ?_
    refine ex_step (pc' := 27) dX11_feed_26 rfl ?_
    obtain ⟨I3, hc, h⟩ := h
    refine ex_callV (as := [.int x3]) (st := []) (ci := 11) dX11_feed_27 zmX11_putWord zl_RX11_90 ziX11_putWord zvX11_putWord (by decide) (ly_a0 hL) rfl (Nat.le_of_ble_eq_true rfl) (Nat.le_of_ble_eq_true rfl) hc ?_
    refine ex_step (pc' := 31) dX11_feed_30 rfl ?_
    refine ex_step (pc' := 33) dX11_feed_31 rfl ?_
    obtain ⟨I4, hc, h⟩ := h
    refine ex_callV (as := [.int x4]) (st := []) (ci := 11) dX11_feed_33 zmX11_putWord zl_RX11_90 ziX11_putWord zvX11_putWord (by decide) (ly_a0 hL) rfl (Nat.le_of_ble_eq_true rfl) (Nat.le_of_ble_eq_true rfl) hc ?_
    refine ex_step (pc' := 37) dX11_feed_36 rfl ?_
    refine ex_step (pc' := 39) dX11_feed_37 rfl ?_
    obtain ⟨I5, hc, h⟩ := h
    refine ex_callV (as := [.int x5]) (st := []) (ci := 11) dX11_feed_39 zmX11_putWord zl_RX11_90 ziX11_putWord zvX11_putWord (by decide) (ly_a0 hL) rfl (Nat.le_of_ble_eq_true rfl) (Nat.le_of_ble_eq_true rfl) hc ?_
    refine ex_step (pc' := 43) dX11_feed_42 rfl ?_
    refine ex_geti dX11_feed_43 wf_RX11_87 (ly_a0 hL) rfl ?_
    rw [h]; exact ex_ret (v := some (.int (I5 0 1))) ⟨dX11_feed_46, _, rfl, rfl⟩
  · have h := h.2 c
    refine ex_step (pc' := 14) (st' := [.int (-1)]) dX11_feed_13 rfl ?_
    rw [h]; exact ex_ret (v := some (.int (-1))) ⟨dX11_feed_14, _, rfl, rfl⟩
set_option maxHeartbeats 4000000 in
theorem BX11_putWord_0 {d : Nat} {Z : zZ} {I : zI} {J : zJ} {o : zO} {t u : Nat} (x1 : Int32) (hL : zLY Z t u)  (h : zE (d + 1) kX11_putWord 3 [some (.ref 0), some (.int x1), some (.int 24)] [] Z I J o) : zE (d + 1) kX11_putWord 0 [some (.ref 0), some (.int x1), none] [] Z I J o := by
  refine ex_step (pc' := 2) (st' := [.int 24]) dX11_putWord_0 rfl ?_
  refine ex_step (pc' := 3) (ls' := [some (.ref 0), some (.int x1), some (.int 24)]) dX11_putWord_2 rfl ?_
  exact h
set_option maxHeartbeats 4000000 in
theorem BX11_putWord_3 {d : Nat} {Z : zZ} {I : zI} {J : zJ} {o : zO} {t u : Nat} (x1 : Int32) (x2 : Int32) (hL : zLY Z t u)  (h : ((x2 < 0 → o = (none, Z, I, J)) ∧ (¬ x2 < 0 → (∀ I1 : zI, I1 = zpt I 1 2000 (I 0 1) (((x1.toUInt32 >>> (Int32.toUInt32 x2 &&& Int32.toUInt32 31)).toInt32) &&& 255) → (∀ I2 : zI, I2 = zu I1 0 1 ((I1 0 1) + 1) → zE (d + 1) kX11_putWord 3 [some (.ref 0), some (.int x1), some (.int (x2 + (-8)))] [] Z I2 J o))))) : zE (d + 1) kX11_putWord 3 [some (.ref 0), some (.int x1), some (.int x2)] [] Z I J o := by
  refine ex_step (pc' := 4) dX11_putWord_3 rfl ?_
  refine ex_if (pc' := 41) dX11_putWord_4 (by decide) (fun c => ?_) (fun c => ?_)
  · have h := h.1 c
    rw [h]; exact ex_ret (v := none) ⟨dX11_putWord_41, rfl⟩
  · have h := h.2 c
    refine ex_step (pc' := 8) dX11_putWord_7 rfl ?_
    refine ex_getr dX11_putWord_8 wf_RX11_9 (ly_a0 hL) rfl (ly_r0_0 hL) ?_
    refine ex_step (pc' := 12) dX11_putWord_11 rfl ?_
    refine ex_geti dX11_putWord_12 wf_RX11_87 (ly_a0 hL) rfl ?_
    refine ex_step (pc' := 16) dX11_putWord_15 rfl ?_
    refine ex_step (pc' := 17) dX11_putWord_16 rfl ?_
    refine ex_step (pc' := 18) (st' := [.int ((x1.toUInt32 >>> (Int32.toUInt32 x2 &&& Int32.toUInt32 31)).toInt32), .int (I 0 1), .ref 1]) dX11_putWord_17 rfl ?_
    refine ex_step (pc' := 21) (st' := [.int 255, .int ((x1.toUInt32 >>> (Int32.toUInt32 x2 &&& Int32.toUInt32 31)).toInt32), .int (I 0 1), .ref 1]) dX11_putWord_18 rfl ?_
    refine ex_step (pc' := 22) dX11_putWord_21 rfl ?_
    obtain ⟨I1, eI1⟩ : ∃ q : zI, q = zpt I 1 2000 (I 0 1) (((x1.toUInt32 >>> (Int32.toUInt32 x2 &&& Int32.toUInt32 31)).toInt32) &&& 255) := ⟨_, rfl⟩
    have h := h I1 eI1
    refine ex_callS (as := [.ref 1, .int (I 0 1), .int (((x1.toUInt32 >>> (Int32.toUInt32 x2 &&& Int32.toUInt32 31)).toInt32) &&& 255)]) (st := []) dX11_putWord_22 zmX11_put zl_RX11_94 zsX11_put rfl (Nat.le_of_ble_eq_true rfl) (Nat.le_of_ble_eq_true rfl) (eI1 ▸ (S_put' (by decide) (ly_a1 hL))) ?_
    refine ex_step (pc' := 26) dX11_putWord_25 rfl ?_
    refine ex_step (pc' := 27) dX11_putWord_26 rfl ?_
    refine ex_geti dX11_putWord_27 wf_RX11_87 (ly_a0 hL) rfl ?_
    refine ex_step (pc' := 31) (st' := [.int 1, .int (I1 0 1), .ref 0]) dX11_putWord_30 rfl ?_
    refine ex_step (pc' := 32) dX11_putWord_31 rfl ?_
    refine ex_putiN dX11_putWord_32 (wp_RX11_87 _) (ly_a0 hL) rfl ⟨rfl, rfl⟩ (fun I2 eI2 => ?_)
    have h := h I2 eI2
    refine ex_step (pc' := 38) (ls' := [some (.ref 0), some (.int x1), some (.int (x2 + (-8)))]) dX11_putWord_35 rfl ?_
    refine ex_step (pc' := 3) dX11_putWord_38 rfl ?_
    exact h
set_option maxHeartbeats 4000000 in
theorem BX11_back_0 {d : Nat} {Z : zZ} {I : zI} {J : zJ} {o : zO} {t u : Nat} (x1 : Int32) (hL : zLY Z t u)  (h : ((x1 < 0 → o = (some (.int (-1)), Z, I, J)) ∧ (¬ x1 < 0 → ((x1 ≤ (I 0 1) → (∀ I1 : zI, I1 = zu I 0 1 ((I 0 1) - x1) → o = (some (.int (I1 0 1)), Z, I1, J))) ∧ (¬ x1 ≤ (I 0 1) → o = (some (.int (-1)), Z, I, J)))))) : zE d kX11_back 0 [some (.ref 0), some (.int x1)] [] Z I J o := by
  refine ex_step (pc' := 1) dX11_back_0 rfl ?_
  refine ex_if (pc' := 12) dX11_back_1 (by decide) (fun c => ?_) (fun c => ?_)
  · have h := h.1 c
    refine ex_step (pc' := 13) (st' := [.int (-1)]) dX11_back_12 rfl ?_
    rw [h]; exact ex_ret (v := some (.int (-1))) ⟨dX11_back_13, _, rfl, rfl⟩
  · have h := h.2 c
    refine ex_step (pc' := 5) dX11_back_4 rfl ?_
    refine ex_step (pc' := 6) dX11_back_5 rfl ?_
    refine ex_geti dX11_back_6 wf_RX11_87 (ly_a0 hL) rfl ?_
    refine ex_icmp (pc' := 14) dX11_back_9 (by decide) (fun c => ?_) (fun c => ?_)
    · have h := h.1 c
      refine ex_step (pc' := 15) dX11_back_14 rfl ?_
      refine ex_step (pc' := 16) dX11_back_15 rfl ?_
      refine ex_geti dX11_back_16 wf_RX11_87 (ly_a0 hL) rfl ?_
      refine ex_step (pc' := 20) dX11_back_19 rfl ?_
      refine ex_step (pc' := 21) dX11_back_20 rfl ?_
      refine ex_putiN dX11_back_21 (wp_RX11_87 _) (ly_a0 hL) rfl ⟨rfl, rfl⟩ (fun I1 eI1 => ?_)
      have h := h I1 eI1
      refine ex_step (pc' := 25) dX11_back_24 rfl ?_
      refine ex_geti dX11_back_25 wf_RX11_87 (ly_a0 hL) rfl ?_
      rw [h]; exact ex_ret (v := some (.int (I1 0 1))) ⟨dX11_back_28, _, rfl, rfl⟩
    · have h := h.2 c
      refine ex_step (pc' := 13) (st' := [.int (-1)]) dX11_back_12 rfl ?_
      rw [h]; exact ex_ret (v := some (.int (-1))) ⟨dX11_back_13, _, rfl, rfl⟩
set_option maxHeartbeats 4000000 in
theorem BX11_place_0 {d : Nat} {Z : zZ} {I : zI} {J : zJ} {o : zO} {t u : Nat}  (hL : zLY Z t u)  (h : o = (some (.int (I 0 2)), Z, I, J)) : zE d kX11_place 0 [some (.ref 0)] [] Z I J o := by
  refine ex_step (pc' := 1) dX11_place_0 rfl ?_
  refine ex_geti dX11_place_1 wf_RX11_13 (ly_a0 hL) rfl ?_
  rw [h]; exact ex_ret (v := some (.int (I 0 2))) ⟨dX11_place_4, _, rfl, rfl⟩
set_option maxHeartbeats 4000000 in
theorem BX11_man_0 {d : Nat} {Z : zZ} {I : zI} {J : zJ} {o : zO} {t u : Nat} (x1 : Int32) (x2 : Int32) (hL : zLY Z t u)  (h : (∃ (v1 : Int32), zE (d + 3) kX11_isMan 0 [some (.ref 0), some (.int x1)] [] Z I J (some (.int v1), Z, I, J) ∧ ((¬ v1 = 0 → ((x2.toInt < 0 ∨ 7 < x2.toInt → o = (some (.int (-1)), Z, I, J)) ∧ (x2 = 0 → o = (some (.int (zat I (47 + 1) 7 x1)), Z, I, J)) ∧ (x2 = 1 → o = (some (.int (zat I (47 + 2) 7 x1)), Z, I, J)) ∧ (x2 = 2 → o = (some (.int (zat I (47 + 3) 7 x1)), Z, I, J)) ∧ (x2 = 3 → (∃ (v2 : Int32), zE (d + 3) kX0_left 0 [some (.ref 47), some (.ref t), some (.int x1)] [] Z I J (some (.int v2), Z, I, J) ∧ o = (some (.int v2), Z, I, J))) ∧ (x2 = 4 → o = (some (.int (zat I (47 + 4) 7 x1)), Z, I, J)) ∧ (x2 = 5 → (∃ (v3 : Int32), zE (d + 3) kX11_apart 0 [some (.int (zat I (47 + 1) 7 x1)), some (.int (zat I (47 + 2) 7 x1)), some (.int (zat I (t + 6) 7 x1)), some (.int (zat I (t + 7) 7 x1))] [] Z I J (some (.int v3), Z, I, J) ∧ o = (some (.int v3), Z, I, J))) ∧ (x2 = 6 → (∃ (v4 : Int32) (I5 : zI), zE (d + 3) kX0_wants 0 [some (.ref 47), some (.ref t), some (.int x1), some (.int (I 47 0))] [] Z I J (some (.int v4), Z, I5, J) ∧ o = (some (.int v4), Z, I5, J))) ∧ (x2 = 7 → o = (some (.int (zat I (t + 10) 7 x1)), Z, I, J)))) ∧ (v1 = 0 → o = (some (.int (-1)), Z, I, J))))) : zE (d + 4) kX11_man 0 [some (.ref 0), some (.int x1), some (.int x2)] [] Z I J o := by
  refine ex_step (pc' := 1) dX11_man_0 rfl ?_
  refine ex_step (pc' := 2) dX11_man_1 rfl ?_
  obtain ⟨v1, hc, h⟩ := h
  refine ex_callV (as := [.int x1]) (st := []) (ci := 11) dX11_man_2 zmX11_isMan zl_RX11_118 ziX11_isMan zvX11_isMan (by decide) (ly_a0 hL) rfl (Nat.le_of_ble_eq_true rfl) (Nat.le_of_ble_eq_true rfl) hc ?_
  refine ex_if (pc' := 10) dX11_man_5 (by decide) (fun c => ?_) (fun c => ?_)
  · have h := h.1 c
    refine ex_step (pc' := 11) dX11_man_10 rfl ?_
    refine ex_tab dX11_man_11 (fun c => ?_) (fun k off hk ho hx => ?_)
    · refine ⟨197, by decide, ?_⟩
      have h := h.1 c
      refine ex_step (pc' := 198) (st' := [.int (-1)]) dX11_man_197 rfl ?_
      rw [h]; exact ex_ret (v := some (.int (-1))) ⟨dX11_man_198, _, rfl, rfl⟩
    · have h := h.2
      match k, hk, ho, hx with
      | 0, hk, ho, hx =>
        cases ho
        refine ⟨56, by decide, ?_⟩
        have h := h.1 (Int32.toInt_inj.mp (hx.trans (by decide)))
        refine ex_step (pc' := 57) dX11_man_56 rfl ?_
        refine ex_getr dX11_man_57 wf_RX11_34 (ly_a0 hL) rfl (ly_r0_5 hL) ?_
        refine ex_getr dX11_man_60 wf_RX11_122 (zDy_o (ly_d47 hL)) rfl (zDy_r1 (ly_d47 hL)) ?_
        refine ex_step (pc' := 64) dX11_man_63 rfl ?_
        refine ex_callS (as := [.ref (47 + 1), .int x1]) (st := []) dX11_man_64 zmX11_at zl_RX11_125 zsX11_at rfl (Nat.le_of_ble_eq_true rfl) (Nat.le_of_ble_eq_true rfl) (S_at' (by decide) (zDy_a1 (ly_d47 hL))) ?_
        rw [h]; exact ex_ret (v := some (.int (zat I (47 + 1) 7 x1))) ⟨dX11_man_67, _, rfl, rfl⟩
      | 1, hk, ho, hx =>
        cases ho
        refine ⟨68, by decide, ?_⟩
        have h := h.2.1 (Int32.toInt_inj.mp (hx.trans (by decide)))
        refine ex_step (pc' := 69) dX11_man_68 rfl ?_
        refine ex_getr dX11_man_69 wf_RX11_34 (ly_a0 hL) rfl (ly_r0_5 hL) ?_
        refine ex_getr dX11_man_72 wf_RX11_129 (zDy_o (ly_d47 hL)) rfl (zDy_r2 (ly_d47 hL)) ?_
        refine ex_step (pc' := 76) dX11_man_75 rfl ?_
        refine ex_callS (as := [.ref (47 + 2), .int x1]) (st := []) dX11_man_76 zmX11_at zl_RX11_125 zsX11_at rfl (Nat.le_of_ble_eq_true rfl) (Nat.le_of_ble_eq_true rfl) (S_at' (by decide) (zDy_a2 (ly_d47 hL))) ?_
        rw [h]; exact ex_ret (v := some (.int (zat I (47 + 2) 7 x1))) ⟨dX11_man_79, _, rfl, rfl⟩
      | 2, hk, ho, hx =>
        cases ho
        refine ⟨80, by decide, ?_⟩
        have h := h.2.2.1 (Int32.toInt_inj.mp (hx.trans (by decide)))
        refine ex_step (pc' := 81) dX11_man_80 rfl ?_
        refine ex_getr dX11_man_81 wf_RX11_34 (ly_a0 hL) rfl (ly_r0_5 hL) ?_
        refine ex_getr dX11_man_84 wf_RX11_132 (zDy_o (ly_d47 hL)) rfl (zDy_r3 (ly_d47 hL)) ?_
        refine ex_step (pc' := 88) dX11_man_87 rfl ?_
        refine ex_callS (as := [.ref (47 + 3), .int x1]) (st := []) dX11_man_88 zmX11_at zl_RX11_125 zsX11_at rfl (Nat.le_of_ble_eq_true rfl) (Nat.le_of_ble_eq_true rfl) (S_at' (by decide) (zDy_a3 (ly_d47 hL))) ?_
        rw [h]; exact ex_ret (v := some (.int (zat I (47 + 3) 7 x1))) ⟨dX11_man_91, _, rfl, rfl⟩
      | 3, hk, ho, hx =>
        cases ho
        refine ⟨92, by decide, ?_⟩
        have h := h.2.2.2.1 (Int32.toInt_inj.mp (hx.trans (by decide)))
        refine ex_step (pc' := 93) dX11_man_92 rfl ?_
        refine ex_getr dX11_man_93 wf_RX11_34 (ly_a0 hL) rfl (ly_r0_5 hL) ?_
        refine ex_step (pc' := 97) dX11_man_96 rfl ?_
        refine ex_getr dX11_man_97 wf_RX11_27 (ly_a0 hL) rfl (ly_text hL) ?_
        refine ex_step (pc' := 101) dX11_man_100 rfl ?_
        obtain ⟨v2, hc, h⟩ := h
        refine ex_callV (as := [.ref t, .int x1]) (st := []) (ci := 0) dX11_man_101 zmX0_left zl_RX11_135 ziX0_left zvX0_left (by decide) (zDy_o (ly_d47 hL)) rfl (Nat.le_of_ble_eq_true rfl) (Nat.le_of_ble_eq_true rfl) hc ?_
        rw [h]; exact ex_ret (v := some (.int v2)) ⟨dX11_man_104, _, rfl, rfl⟩
      | 4, hk, ho, hx =>
        cases ho
        refine ⟨105, by decide, ?_⟩
        have h := h.2.2.2.2.1 (Int32.toInt_inj.mp (hx.trans (by decide)))
        refine ex_step (pc' := 106) dX11_man_105 rfl ?_
        refine ex_getr dX11_man_106 wf_RX11_34 (ly_a0 hL) rfl (ly_r0_5 hL) ?_
        refine ex_getr dX11_man_109 wf_RX11_139 (zDy_o (ly_d47 hL)) rfl (zDy_r4 (ly_d47 hL)) ?_
        refine ex_step (pc' := 113) dX11_man_112 rfl ?_
        refine ex_callS (as := [.ref (47 + 4), .int x1]) (st := []) dX11_man_113 zmX11_at zl_RX11_125 zsX11_at rfl (Nat.le_of_ble_eq_true rfl) (Nat.le_of_ble_eq_true rfl) (S_at' (by decide) (zDy_a4 (ly_d47 hL))) ?_
        rw [h]; exact ex_ret (v := some (.int (zat I (47 + 4) 7 x1))) ⟨dX11_man_116, _, rfl, rfl⟩
      | 5, hk, ho, hx =>
        cases ho
        refine ⟨117, by decide, ?_⟩
        have h := h.2.2.2.2.2.1 (Int32.toInt_inj.mp (hx.trans (by decide)))
        refine ex_step (pc' := 118) dX11_man_117 rfl ?_
        refine ex_getr dX11_man_118 wf_RX11_34 (ly_a0 hL) rfl (ly_r0_5 hL) ?_
        refine ex_getr dX11_man_121 wf_RX11_122 (zDy_o (ly_d47 hL)) rfl (zDy_r1 (ly_d47 hL)) ?_
        refine ex_step (pc' := 125) dX11_man_124 rfl ?_
        refine ex_callS (as := [.ref (47 + 1), .int x1]) (st := []) dX11_man_125 zmX11_at zl_RX11_125 zsX11_at rfl (Nat.le_of_ble_eq_true rfl) (Nat.le_of_ble_eq_true rfl) (S_at' (by decide) (zDy_a1 (ly_d47 hL))) ?_
        refine ex_step (pc' := 129) dX11_man_128 rfl ?_
        refine ex_getr dX11_man_129 wf_RX11_34 (ly_a0 hL) rfl (ly_r0_5 hL) ?_
        refine ex_getr dX11_man_132 wf_RX11_129 (zDy_o (ly_d47 hL)) rfl (zDy_r2 (ly_d47 hL)) ?_
        refine ex_step (pc' := 136) dX11_man_135 rfl ?_
        refine ex_callS (as := [.ref (47 + 2), .int x1]) (st := [.int (zat I (47 + 1) 7 x1)]) dX11_man_136 zmX11_at zl_RX11_125 zsX11_at rfl (Nat.le_of_ble_eq_true rfl) (Nat.le_of_ble_eq_true rfl) (S_at' (by decide) (zDy_a2 (ly_d47 hL))) ?_
        refine ex_step (pc' := 140) dX11_man_139 rfl ?_
        refine ex_getr dX11_man_140 wf_RX11_27 (ly_a0 hL) rfl (ly_text hL) ?_
        refine ex_getr dX11_man_143 wf_RX11_142 (zTx_o (ly_tx hL)) rfl (zTx_r7 (ly_tx hL)) ?_
        refine ex_step (pc' := 147) dX11_man_146 rfl ?_
        refine ex_callS (as := [.ref (t + 6), .int x1]) (st := [.int (zat I (47 + 2) 7 x1), .int (zat I (47 + 1) 7 x1)]) dX11_man_147 zmX11_at zl_RX11_125 zsX11_at rfl (Nat.le_of_ble_eq_true rfl) (Nat.le_of_ble_eq_true rfl) (S_at' (by decide) (zTx_a6 (ly_tx hL))) ?_
        refine ex_step (pc' := 151) dX11_man_150 rfl ?_
        refine ex_getr dX11_man_151 wf_RX11_27 (ly_a0 hL) rfl (ly_text hL) ?_
        refine ex_getr dX11_man_154 wf_RX11_145 (zTx_o (ly_tx hL)) rfl (zTx_r8 (ly_tx hL)) ?_
        refine ex_step (pc' := 158) dX11_man_157 rfl ?_
        refine ex_callS (as := [.ref (t + 7), .int x1]) (st := [.int (zat I (t + 6) 7 x1), .int (zat I (47 + 2) 7 x1), .int (zat I (47 + 1) 7 x1)]) dX11_man_158 zmX11_at zl_RX11_125 zsX11_at rfl (Nat.le_of_ble_eq_true rfl) (Nat.le_of_ble_eq_true rfl) (S_at' (by decide) (zTx_a7 (ly_tx hL))) ?_
        obtain ⟨v3, hc, h⟩ := h
        refine ex_callS (as := [.int (zat I (47 + 1) 7 x1), .int (zat I (47 + 2) 7 x1), .int (zat I (t + 6) 7 x1), .int (zat I (t + 7) 7 x1)]) (st := []) dX11_man_161 zmX11_apart zl_RX11_148 zsX11_apart rfl (Nat.le_of_ble_eq_true rfl) (Nat.le_of_ble_eq_true rfl) hc ?_
        rw [h]; exact ex_ret (v := some (.int v3)) ⟨dX11_man_164, _, rfl, rfl⟩
      | 6, hk, ho, hx =>
        cases ho
        refine ⟨165, by decide, ?_⟩
        have h := h.2.2.2.2.2.2.1 (Int32.toInt_inj.mp (hx.trans (by decide)))
        refine ex_step (pc' := 166) dX11_man_165 rfl ?_
        refine ex_getr dX11_man_166 wf_RX11_34 (ly_a0 hL) rfl (ly_r0_5 hL) ?_
        refine ex_step (pc' := 170) dX11_man_169 rfl ?_
        refine ex_getr dX11_man_170 wf_RX11_27 (ly_a0 hL) rfl (ly_text hL) ?_
        refine ex_step (pc' := 174) dX11_man_173 rfl ?_
        refine ex_step (pc' := 175) dX11_man_174 rfl ?_
        refine ex_getr dX11_man_175 wf_RX11_34 (ly_a0 hL) rfl (ly_r0_5 hL) ?_
        refine ex_geti dX11_man_178 wf_RX11_152 (zDy_o (ly_d47 hL)) rfl ?_
        obtain ⟨v4, I5, hc, h⟩ := h
        refine ex_callV (as := [.ref t, .int x1, .int (I 47 0)]) (st := []) (ci := 0) dX11_man_181 zmX0_wants zl_RX11_155 ziX0_wants zvX0_wants (by decide) (zDy_o (ly_d47 hL)) rfl (Nat.le_of_ble_eq_true rfl) (Nat.le_of_ble_eq_true rfl) hc ?_
        rw [h]; exact ex_ret (v := some (.int v4)) ⟨dX11_man_184, _, rfl, rfl⟩
      | 7, hk, ho, hx =>
        cases ho
        refine ⟨185, by decide, ?_⟩
        have h := h.2.2.2.2.2.2.2 (Int32.toInt_inj.mp (hx.trans (by decide)))
        refine ex_step (pc' := 186) dX11_man_185 rfl ?_
        refine ex_getr dX11_man_186 wf_RX11_27 (ly_a0 hL) rfl (ly_text hL) ?_
        refine ex_getr dX11_man_189 wf_RX11_159 (zTx_o (ly_tx hL)) rfl (zTx_r11 (ly_tx hL)) ?_
        refine ex_step (pc' := 193) dX11_man_192 rfl ?_
        refine ex_callS (as := [.ref (t + 10), .int x1]) (st := []) dX11_man_193 zmX11_at zl_RX11_125 zsX11_at rfl (Nat.le_of_ble_eq_true rfl) (Nat.le_of_ble_eq_true rfl) (S_at' (by decide) (zTx_a10 (ly_tx hL))) ?_
        rw [h]; exact ex_ret (v := some (.int (zat I (t + 10) 7 x1))) ⟨dX11_man_196, _, rfl, rfl⟩
      | (k + 8), hk, ho, hx => exact absurd hk (by simp)
  · have h := h.2 (Classical.not_not.mp c)
    refine ex_step (pc' := 9) (st' := [.int (-1)]) dX11_man_8 rfl ?_
    rw [h]; exact ex_ret (v := some (.int (-1))) ⟨dX11_man_9, _, rfl, rfl⟩
set_option maxHeartbeats 4000000 in
theorem BX11_piece_0 {d : Nat} {Z : zZ} {I : zI} {J : zJ} {o : zO} {t u : Nat} (x1 : Int32) (x2 : Int32) (x3 : Int32) (hL : zLY Z t u)  (h : (∃ (v1 : Int32), zE (d + 2) kX11_isMan 0 [some (.ref 0), some (.int x1)] [] Z I J (some (.int v1), Z, I, J) ∧ ((v1 = 0 → o = (some (.int (-1)), Z, I, J)) ∧ (¬ v1 = 0 → ((x2 < 0 → o = (some (.int (-1)), Z, I, J)) ∧ (¬ x2 < 0 → ((x2 < (zat I (47 + 3) 7 x1) → ((x3.toInt < 0 ∨ 2 < x3.toInt → o = (some (.int (-1)), Z, I, J)) ∧ (x3 = 0 → o = (some (.int (zat I (47 + 5) 421 (zpc x1 x2))), Z, I, J)) ∧ (x3 = 1 → (∃ (v2 : Int32), zE (d + 2) kX0_countUnder 0 [some (.ref 47), some (.int (zpc x1 x2)), none, none, none] [] Z I J (some (.int v2), Z, I, J) ∧ o = (some (.int v2), Z, I, J))) ∧ (x3 = 2 → (∃ (v3 : Int32), zE (d + 2) kX0_countOn 0 [some (.ref 47), some (.int (zat I (47 + 6) 421 (zpc x1 x2))), none] [] Z I J (some (.int v3), Z, I, J) ∧ (∃ (v4 : Int32), zE (d + 2) kX0_countUnder 0 [some (.ref 47), some (.int (zpc x1 x2)), none, none, none] [] Z I J (some (.int v4), Z, I, J) ∧ o = (some (.int ((v3 - v4) - 1)), Z, I, J)))))) ∧ (¬ x2 < (zat I (47 + 3) 7 x1) → o = (some (.int (-1)), Z, I, J))))))))) : zE (d + 3) kX11_piece 0 [some (.ref 0), some (.int x1), some (.int x2), some (.int x3), none] [] Z I J o := by
  refine ex_step (pc' := 1) dX11_piece_0 rfl ?_
  refine ex_step (pc' := 2) dX11_piece_1 rfl ?_
  obtain ⟨v1, hc, h⟩ := h
  refine ex_callV (as := [.int x1]) (st := []) (ci := 11) dX11_piece_2 zmX11_isMan zl_RX11_118 ziX11_isMan zvX11_isMan (by decide) (ly_a0 hL) rfl (Nat.le_of_ble_eq_true rfl) (Nat.le_of_ble_eq_true rfl) hc ?_
  refine ex_if (pc' := 27) dX11_piece_5 (by decide) (fun c => ?_) (fun c => ?_)
  · have h := h.1 c
    refine ex_step (pc' := 28) (st' := [.int (-1)]) dX11_piece_27 rfl ?_
    rw [h]; exact ex_ret (v := some (.int (-1))) ⟨dX11_piece_28, _, rfl, rfl⟩
  · have h := h.2 c
    refine ex_step (pc' := 9) dX11_piece_8 rfl ?_
    refine ex_if (pc' := 27) dX11_piece_9 (by decide) (fun c => ?_) (fun c => ?_)
    · have h := h.1 c
      refine ex_step (pc' := 28) (st' := [.int (-1)]) dX11_piece_27 rfl ?_
      rw [h]; exact ex_ret (v := some (.int (-1))) ⟨dX11_piece_28, _, rfl, rfl⟩
    · have h := h.2 c
      refine ex_step (pc' := 13) dX11_piece_12 rfl ?_
      refine ex_step (pc' := 14) dX11_piece_13 rfl ?_
      refine ex_getr dX11_piece_14 wf_RX11_34 (ly_a0 hL) rfl (ly_r0_5 hL) ?_
      refine ex_getr dX11_piece_17 wf_RX11_132 (zDy_o (ly_d47 hL)) rfl (zDy_r3 (ly_d47 hL)) ?_
      refine ex_step (pc' := 21) dX11_piece_20 rfl ?_
      refine ex_callS (as := [.ref (47 + 3), .int x1]) (st := [.int x2]) dX11_piece_21 zmX11_at zl_RX11_125 zsX11_at rfl (Nat.le_of_ble_eq_true rfl) (Nat.le_of_ble_eq_true rfl) (S_at' (by decide) (zDy_a3 (ly_d47 hL))) ?_
      refine ex_icmp (pc' := 29) dX11_piece_24 (by decide) (fun c => ?_) (fun c => ?_)
      · have h := h.1 c
        refine ex_step (pc' := 30) dX11_piece_29 rfl ?_
        refine ex_step (pc' := 31) dX11_piece_30 rfl ?_
        refine ex_callS (as := [.int x1, .int x2]) (st := []) dX11_piece_31 zmX11_pieceOf zl_RX11_162 zsX11_pieceOf rfl (Nat.le_of_ble_eq_true rfl) (Nat.le_of_ble_eq_true rfl) S_pieceOf ?_
        refine ex_step (pc' := 36) (ls' := [some (.ref 0), some (.int x1), some (.int x2), some (.int x3), some (.int (zpc x1 x2))]) dX11_piece_34 rfl ?_
        refine ex_step (pc' := 37) dX11_piece_36 rfl ?_
        refine ex_tab dX11_piece_37 (fun c => ?_) (fun k off hk ho hx => ?_)
        · refine ⟨119, by decide, ?_⟩
          have h := h.1 c
          refine ex_step (pc' := 120) (st' := [.int (-1)]) dX11_piece_119 rfl ?_
          rw [h]; exact ex_ret (v := some (.int (-1))) ⟨dX11_piece_120, _, rfl, rfl⟩
        · have h := h.2
          match k, hk, ho, hx with
          | 0, hk, ho, hx =>
            cases ho
            refine ⟨64, by decide, ?_⟩
            have h := h.1 (Int32.toInt_inj.mp (hx.trans (by decide)))
            refine ex_step (pc' := 65) dX11_piece_64 rfl ?_
            refine ex_getr dX11_piece_65 wf_RX11_34 (ly_a0 hL) rfl (ly_r0_5 hL) ?_
            refine ex_getr dX11_piece_68 wf_RX11_166 (zDy_o (ly_d47 hL)) rfl (zDy_r5 (ly_d47 hL)) ?_
            refine ex_step (pc' := 73) dX11_piece_71 rfl ?_
            refine ex_callS (as := [.ref (47 + 5), .int (zpc x1 x2)]) (st := []) dX11_piece_73 zmX11_at zl_RX11_125 zsX11_at rfl (Nat.le_of_ble_eq_true rfl) (Nat.le_of_ble_eq_true rfl) (S_at' (by decide) (zDy_a5 (ly_d47 hL))) ?_
            rw [h]; exact ex_ret (v := some (.int (zat I (47 + 5) 421 (zpc x1 x2)))) ⟨dX11_piece_76, _, rfl, rfl⟩
          | 1, hk, ho, hx =>
            cases ho
            refine ⟨77, by decide, ?_⟩
            have h := h.2.1 (Int32.toInt_inj.mp (hx.trans (by decide)))
            refine ex_step (pc' := 78) dX11_piece_77 rfl ?_
            refine ex_getr dX11_piece_78 wf_RX11_34 (ly_a0 hL) rfl (ly_r0_5 hL) ?_
            refine ex_step (pc' := 83) dX11_piece_81 rfl ?_
            obtain ⟨v2, hc, h⟩ := h
            refine ex_callV (as := [.int (zpc x1 x2)]) (st := []) (ci := 0) dX11_piece_83 zmX0_countUnder zl_RX11_168 ziX0_countUnder zvX0_countUnder (by decide) (zDy_o (ly_d47 hL)) rfl (Nat.le_of_ble_eq_true rfl) (Nat.le_of_ble_eq_true rfl) hc ?_
            rw [h]; exact ex_ret (v := some (.int v2)) ⟨dX11_piece_86, _, rfl, rfl⟩
          | 2, hk, ho, hx =>
            cases ho
            refine ⟨87, by decide, ?_⟩
            have h := h.2.2 (Int32.toInt_inj.mp (hx.trans (by decide)))
            refine ex_step (pc' := 88) dX11_piece_87 rfl ?_
            refine ex_getr dX11_piece_88 wf_RX11_34 (ly_a0 hL) rfl (ly_r0_5 hL) ?_
            refine ex_step (pc' := 92) dX11_piece_91 rfl ?_
            refine ex_getr dX11_piece_92 wf_RX11_34 (ly_a0 hL) rfl (ly_r0_5 hL) ?_
            refine ex_getr dX11_piece_95 wf_RX11_172 (zDy_o (ly_d47 hL)) rfl (zDy_r6 (ly_d47 hL)) ?_
            refine ex_step (pc' := 100) dX11_piece_98 rfl ?_
            refine ex_callS (as := [.ref (47 + 6), .int (zpc x1 x2)]) (st := [.ref 47]) dX11_piece_100 zmX11_at zl_RX11_125 zsX11_at rfl (Nat.le_of_ble_eq_true rfl) (Nat.le_of_ble_eq_true rfl) (S_at' (by decide) (zDy_a6 (ly_d47 hL))) ?_
            obtain ⟨v3, hc, h⟩ := h
            refine ex_callV (as := [.int (zat I (47 + 6) 421 (zpc x1 x2))]) (st := []) (ci := 0) dX11_piece_103 zmX0_countOn zl_RX11_175 ziX0_countOn zvX0_countOn (by decide) (zDy_o (ly_d47 hL)) rfl (Nat.le_of_ble_eq_true rfl) (Nat.le_of_ble_eq_true rfl) hc ?_
            refine ex_step (pc' := 107) dX11_piece_106 rfl ?_
            refine ex_getr dX11_piece_107 wf_RX11_34 (ly_a0 hL) rfl (ly_r0_5 hL) ?_
            refine ex_step (pc' := 112) dX11_piece_110 rfl ?_
            obtain ⟨v4, hc, h⟩ := h
            refine ex_callV (as := [.int (zpc x1 x2)]) (st := [.int v3]) (ci := 0) dX11_piece_112 zmX0_countUnder zl_RX11_168 ziX0_countUnder zvX0_countUnder (by decide) (zDy_o (ly_d47 hL)) rfl (Nat.le_of_ble_eq_true rfl) (Nat.le_of_ble_eq_true rfl) hc ?_
            refine ex_step (pc' := 116) dX11_piece_115 rfl ?_
            refine ex_step (pc' := 117) (st' := [.int 1, .int (v3 - v4)]) dX11_piece_116 rfl ?_
            refine ex_step (pc' := 118) dX11_piece_117 rfl ?_
            rw [h]; exact ex_ret (v := some (.int ((v3 - v4) - 1))) ⟨dX11_piece_118, _, rfl, rfl⟩
          | (k + 3), hk, ho, hx => exact absurd hk (by simp)
      · have h := h.2 c
        refine ex_step (pc' := 28) (st' := [.int (-1)]) dX11_piece_27 rfl ?_
        rw [h]; exact ex_ret (v := some (.int (-1))) ⟨dX11_piece_28, _, rfl, rfl⟩
set_option maxHeartbeats 4000000 in
theorem BX11_step_0 {d : Nat} {Z : zZ} {I : zI} {J : zJ} {o : zO} {t u : Nat} (x1 : Int32) (x2 : Int32) (hL : zLY Z t u)  (h : (∃ (v1 : Int32), zE (d + 3) kX11_isMan 0 [some (.ref 0), some (.int x1)] [] Z I J (some (.int v1), Z, I, J) ∧ ((v1 = 0 → o = (some (.int 0), Z, I, J)) ∧ (¬ v1 = 0 → (∃ (v2 : Int32), zE (d + 3) kX0_canLay 0 [some (.ref 47), some (.ref t), some (.int x1), some (.int x2)] [] Z I J (some (.int v2), Z, I, J) ∧ ((¬ v2 = 0 → (∃ (I3 : zI), zE (d + 3) kX3_remember 0 [some (.ref 67), some (.ref 47), none] [] Z I J (none, Z, I3, J) ∧ (∃ (I4 : zI), zE (d + 3) kX0_lay 0 [some (.ref 47), some (.ref t), some (.int x1), some (.int x2), none, none] [] Z I3 J (none, Z, I4, J) ∧ o = (some (.int 1), Z, I4, J)))) ∧ (v2 = 0 → o = (some (.int 0), Z, I, J)))))))) : zE (d + 4) kX11_step 0 [some (.ref 0), some (.int x1), some (.int x2)] [] Z I J o := by
  refine ex_step (pc' := 1) dX11_step_0 rfl ?_
  refine ex_step (pc' := 2) dX11_step_1 rfl ?_
  obtain ⟨v1, hc, h⟩ := h
  refine ex_callV (as := [.int x1]) (st := []) (ci := 11) dX11_step_2 zmX11_isMan zl_RX11_118 ziX11_isMan zvX11_isMan (by decide) (ly_a0 hL) rfl (Nat.le_of_ble_eq_true rfl) (Nat.le_of_ble_eq_true rfl) hc ?_
  refine ex_if (pc' := 24) dX11_step_5 (by decide) (fun c => ?_) (fun c => ?_)
  · have h := h.1 c
    refine ex_step (pc' := 25) (st' := [.int 0]) dX11_step_24 rfl ?_
    rw [h]; exact ex_ret (v := some (.int 0)) ⟨dX11_step_25, _, rfl, rfl⟩
  · have h := h.2 c
    refine ex_step (pc' := 9) dX11_step_8 rfl ?_
    refine ex_getr dX11_step_9 wf_RX11_34 (ly_a0 hL) rfl (ly_r0_5 hL) ?_
    refine ex_step (pc' := 13) dX11_step_12 rfl ?_
    refine ex_getr dX11_step_13 wf_RX11_27 (ly_a0 hL) rfl (ly_text hL) ?_
    refine ex_step (pc' := 17) dX11_step_16 rfl ?_
    refine ex_step (pc' := 18) dX11_step_17 rfl ?_
    obtain ⟨v2, hc, h⟩ := h
    refine ex_callV (as := [.ref t, .int x1, .int x2]) (st := []) (ci := 0) dX11_step_18 zmX0_canLay zl_RX11_178 ziX0_canLay zvX0_canLay (by decide) (zDy_o (ly_d47 hL)) rfl (Nat.le_of_ble_eq_true rfl) (Nat.le_of_ble_eq_true rfl) hc ?_
    refine ex_if (pc' := 26) dX11_step_21 (by decide) (fun c => ?_) (fun c => ?_)
    · have h := h.1 c
      refine ex_step (pc' := 27) dX11_step_26 rfl ?_
      refine ex_getr dX11_step_27 wf_RX11_44 (ly_a0 hL) rfl (ly_r0_7 hL) ?_
      refine ex_step (pc' := 31) dX11_step_30 rfl ?_
      refine ex_getr dX11_step_31 wf_RX11_34 (ly_a0 hL) rfl (ly_r0_5 hL) ?_
      obtain ⟨I3, hc, h⟩ := h
      refine ex_callV (as := [.ref 47]) (st := []) (ci := 3) dX11_step_34 zmX3_remember zl_RX11_182 ziX3_remember zvX3_remember (by decide) (ly_a67 hL) rfl (Nat.le_of_ble_eq_true rfl) (Nat.le_of_ble_eq_true rfl) hc ?_
      refine ex_step (pc' := 38) dX11_step_37 rfl ?_
      refine ex_getr dX11_step_38 wf_RX11_34 (ly_a0 hL) rfl (ly_r0_5 hL) ?_
      refine ex_step (pc' := 42) dX11_step_41 rfl ?_
      refine ex_getr dX11_step_42 wf_RX11_27 (ly_a0 hL) rfl (ly_text hL) ?_
      refine ex_step (pc' := 46) dX11_step_45 rfl ?_
      refine ex_step (pc' := 47) dX11_step_46 rfl ?_
      obtain ⟨I4, hc, h⟩ := h
      refine ex_callV (as := [.ref t, .int x1, .int x2]) (st := []) (ci := 0) dX11_step_47 zmX0_lay zl_RX11_186 ziX0_lay zvX0_lay (by decide) (zDy_o (ly_d47 hL)) rfl (Nat.le_of_ble_eq_true rfl) (Nat.le_of_ble_eq_true rfl) hc ?_
      refine ex_step (pc' := 51) (st' := [.int 1]) dX11_step_50 rfl ?_
      rw [h]; exact ex_ret (v := some (.int 1)) ⟨dX11_step_51, _, rfl, rfl⟩
    · have h := h.2 (Classical.not_not.mp c)
      refine ex_step (pc' := 25) (st' := [.int 0]) dX11_step_24 rfl ?_
      rw [h]; exact ex_ret (v := some (.int 0)) ⟨dX11_step_25, _, rfl, rfl⟩
set_option maxHeartbeats 4000000 in
theorem BX11_wind_0 {d : Nat} {Z : zZ} {I : zI} {J : zJ} {o : zO} {t u : Nat} (x1 : Int32) (hL : zLY Z t u)  (h : (∃ (v1 : Int32), zE (d + 3) kX11_isMan 0 [some (.ref 0), some (.int x1)] [] Z I J (some (.int v1), Z, I, J) ∧ ((v1 = 0 → o = (some (.int 0), Z, I, J)) ∧ (¬ v1 = 0 → (∃ (v2 : Int32), zE (d + 3) kX0_canTakeUp 0 [some (.ref 47), some (.int x1), none] [] Z I J (some (.int v2), Z, I, J) ∧ ((¬ v2 = 0 → (∃ (I3 : zI), zE (d + 3) kX3_remember 0 [some (.ref 67), some (.ref 47), none] [] Z I J (none, Z, I3, J) ∧ (∃ (v4 : Int32) (I5 : zI), zE (d + 3) kX0_takeUp 0 [some (.ref 47), some (.int x1), none, none] [] Z I3 J (some (.int v4), Z, I5, J) ∧ o = (some (.int 1), Z, I5, J)))) ∧ (v2 = 0 → o = (some (.int 0), Z, I, J)))))))) : zE (d + 4) kX11_wind 0 [some (.ref 0), some (.int x1)] [] Z I J o := by
  refine ex_step (pc' := 1) dX11_wind_0 rfl ?_
  refine ex_step (pc' := 2) dX11_wind_1 rfl ?_
  obtain ⟨v1, hc, h⟩ := h
  refine ex_callV (as := [.int x1]) (st := []) (ci := 11) dX11_wind_2 zmX11_isMan zl_RX11_118 ziX11_isMan zvX11_isMan (by decide) (ly_a0 hL) rfl (Nat.le_of_ble_eq_true rfl) (Nat.le_of_ble_eq_true rfl) hc ?_
  refine ex_if (pc' := 19) dX11_wind_5 (by decide) (fun c => ?_) (fun c => ?_)
  · have h := h.1 c
    refine ex_step (pc' := 20) (st' := [.int 0]) dX11_wind_19 rfl ?_
    rw [h]; exact ex_ret (v := some (.int 0)) ⟨dX11_wind_20, _, rfl, rfl⟩
  · have h := h.2 c
    refine ex_step (pc' := 9) dX11_wind_8 rfl ?_
    refine ex_getr dX11_wind_9 wf_RX11_34 (ly_a0 hL) rfl (ly_r0_5 hL) ?_
    refine ex_step (pc' := 13) dX11_wind_12 rfl ?_
    obtain ⟨v2, hc, h⟩ := h
    refine ex_callV (as := [.int x1]) (st := []) (ci := 0) dX11_wind_13 zmX0_canTakeUp zl_RX11_190 ziX0_canTakeUp zvX0_canTakeUp (by decide) (zDy_o (ly_d47 hL)) rfl (Nat.le_of_ble_eq_true rfl) (Nat.le_of_ble_eq_true rfl) hc ?_
    refine ex_if (pc' := 21) dX11_wind_16 (by decide) (fun c => ?_) (fun c => ?_)
    · have h := h.1 c
      refine ex_step (pc' := 22) dX11_wind_21 rfl ?_
      refine ex_getr dX11_wind_22 wf_RX11_44 (ly_a0 hL) rfl (ly_r0_7 hL) ?_
      refine ex_step (pc' := 26) dX11_wind_25 rfl ?_
      refine ex_getr dX11_wind_26 wf_RX11_34 (ly_a0 hL) rfl (ly_r0_5 hL) ?_
      obtain ⟨I3, hc, h⟩ := h
      refine ex_callV (as := [.ref 47]) (st := []) (ci := 3) dX11_wind_29 zmX3_remember zl_RX11_182 ziX3_remember zvX3_remember (by decide) (ly_a67 hL) rfl (Nat.le_of_ble_eq_true rfl) (Nat.le_of_ble_eq_true rfl) hc ?_
      refine ex_step (pc' := 33) dX11_wind_32 rfl ?_
      refine ex_getr dX11_wind_33 wf_RX11_34 (ly_a0 hL) rfl (ly_r0_5 hL) ?_
      refine ex_step (pc' := 37) dX11_wind_36 rfl ?_
      obtain ⟨v4, I5, hc, h⟩ := h
      refine ex_callV (as := [.int x1]) (st := []) (ci := 0) dX11_wind_37 zmX0_takeUp zl_RX11_193 ziX0_takeUp zvX0_takeUp (by decide) (zDy_o (ly_d47 hL)) rfl (Nat.le_of_ble_eq_true rfl) (Nat.le_of_ble_eq_true rfl) hc ?_
      refine ex_step (pc' := 41) dX11_wind_40 rfl ?_
      refine ex_step (pc' := 42) (st' := [.int 1]) dX11_wind_41 rfl ?_
      rw [h]; exact ex_ret (v := some (.int 1)) ⟨dX11_wind_42, _, rfl, rfl⟩
    · have h := h.2 (Classical.not_not.mp c)
      refine ex_step (pc' := 20) (st' := [.int 0]) dX11_wind_19 rfl ?_
      rw [h]; exact ex_ret (v := some (.int 0)) ⟨dX11_wind_20, _, rfl, rfl⟩
set_option maxHeartbeats 4000000 in
theorem BX11_home_0 {d : Nat} {Z : zZ} {I : zI} {J : zJ} {o : zO} {t u : Nat} (x1 : Int32) (hL : zLY Z t u)  (h : (∃ (v1 : Int32), zE (d + 4) kX11_isMan 0 [some (.ref 0), some (.int x1)] [] Z I J (some (.int v1), Z, I, J) ∧ ((v1 = 0 → o = (some (.int (-1)), Z, I, J)) ∧ (¬ v1 = 0 → (∃ (v2 : Int32), zE (d + 4) kX0_canTakeUp 0 [some (.ref 47), some (.int x1), none] [] Z I J (some (.int v2), Z, I, J) ∧ ((¬ v2 = 0 → (∃ (I3 : zI), zE (d + 4) kX3_remember 0 [some (.ref 67), some (.ref 47), none] [] Z I J (none, Z, I3, J) ∧ (∃ (v4 : Int32) (I5 : zI), zE (d + 4) kX0_takeUpAll 0 [some (.ref 47), some (.int x1), none, none] [] Z I3 J (some (.int v4), Z, I5, J) ∧ o = (some (.int v4), Z, I5, J)))) ∧ (v2 = 0 → o = (some (.int (-1)), Z, I, J)))))))) : zE (d + 5) kX11_home 0 [some (.ref 0), some (.int x1)] [] Z I J o := by
  refine ex_step (pc' := 1) dX11_home_0 rfl ?_
  refine ex_step (pc' := 2) dX11_home_1 rfl ?_
  obtain ⟨v1, hc, h⟩ := h
  refine ex_callV (as := [.int x1]) (st := []) (ci := 11) dX11_home_2 zmX11_isMan zl_RX11_118 ziX11_isMan zvX11_isMan (by decide) (ly_a0 hL) rfl (Nat.le_of_ble_eq_true rfl) (Nat.le_of_ble_eq_true rfl) hc ?_
  refine ex_if (pc' := 19) dX11_home_5 (by decide) (fun c => ?_) (fun c => ?_)
  · have h := h.1 c
    refine ex_step (pc' := 20) (st' := [.int (-1)]) dX11_home_19 rfl ?_
    rw [h]; exact ex_ret (v := some (.int (-1))) ⟨dX11_home_20, _, rfl, rfl⟩
  · have h := h.2 c
    refine ex_step (pc' := 9) dX11_home_8 rfl ?_
    refine ex_getr dX11_home_9 wf_RX11_34 (ly_a0 hL) rfl (ly_r0_5 hL) ?_
    refine ex_step (pc' := 13) dX11_home_12 rfl ?_
    obtain ⟨v2, hc, h⟩ := h
    refine ex_callV (as := [.int x1]) (st := []) (ci := 0) dX11_home_13 zmX0_canTakeUp zl_RX11_190 ziX0_canTakeUp zvX0_canTakeUp (by decide) (zDy_o (ly_d47 hL)) rfl (Nat.le_of_ble_eq_true rfl) (Nat.le_of_ble_eq_true rfl) hc ?_
    refine ex_if (pc' := 21) dX11_home_16 (by decide) (fun c => ?_) (fun c => ?_)
    · have h := h.1 c
      refine ex_step (pc' := 22) dX11_home_21 rfl ?_
      refine ex_getr dX11_home_22 wf_RX11_44 (ly_a0 hL) rfl (ly_r0_7 hL) ?_
      refine ex_step (pc' := 26) dX11_home_25 rfl ?_
      refine ex_getr dX11_home_26 wf_RX11_34 (ly_a0 hL) rfl (ly_r0_5 hL) ?_
      obtain ⟨I3, hc, h⟩ := h
      refine ex_callV (as := [.ref 47]) (st := []) (ci := 3) dX11_home_29 zmX3_remember zl_RX11_182 ziX3_remember zvX3_remember (by decide) (ly_a67 hL) rfl (Nat.le_of_ble_eq_true rfl) (Nat.le_of_ble_eq_true rfl) hc ?_
      refine ex_step (pc' := 33) dX11_home_32 rfl ?_
      refine ex_getr dX11_home_33 wf_RX11_34 (ly_a0 hL) rfl (ly_r0_5 hL) ?_
      refine ex_step (pc' := 37) dX11_home_36 rfl ?_
      obtain ⟨v4, I5, hc, h⟩ := h
      refine ex_callV (as := [.int x1]) (st := []) (ci := 0) dX11_home_37 zmX0_takeUpAll zl_RX11_196 ziX0_takeUpAll zvX0_takeUpAll (by decide) (zDy_o (ly_d47 hL)) rfl (Nat.le_of_ble_eq_true rfl) (Nat.le_of_ble_eq_true rfl) hc ?_
      rw [h]; exact ex_ret (v := some (.int v4)) ⟨dX11_home_40, _, rfl, rfl⟩
    · have h := h.2 (Classical.not_not.mp c)
      refine ex_step (pc' := 20) (st' := [.int (-1)]) dX11_home_19 rfl ?_
      rw [h]; exact ex_ret (v := some (.int (-1))) ⟨dX11_home_20, _, rfl, rfl⟩
set_option maxHeartbeats 4000000 in
theorem BX11_cut_0 {d : Nat} {Z : zZ} {I : zI} {J : zJ} {o : zO} {t u : Nat} (x1 : Int32) (hL : zLY Z t u)  (h : (∃ (v1 : Int32), zE (d + 3) kX11_isMan 0 [some (.ref 0), some (.int x1)] [] Z I J (some (.int v1), Z, I, J) ∧ ((v1 = 0 → o = (some (.int (-1)), Z, I, J)) ∧ (¬ v1 = 0 → (((zat I (47 + 4) 7 x1) = 0 → (∃ (I2 : zI), zE (d + 3) kX3_remember 0 [some (.ref 67), some (.ref 47), none] [] Z I J (none, Z, I2, J) ∧ (∃ (v3 : Int32) (I4 : zI), zE (d + 3) kX0_lose 0 [some (.ref 47), some (.int x1), none, none] [] Z I2 J (some (.int v3), Z, I4, J) ∧ o = (some (.int v3), Z, I4, J)))) ∧ (¬ (zat I (47 + 4) 7 x1) = 0 → o = (some (.int (-1)), Z, I, J))))))) : zE (d + 4) kX11_cut 0 [some (.ref 0), some (.int x1)] [] Z I J o := by
  refine ex_step (pc' := 1) dX11_cut_0 rfl ?_
  refine ex_step (pc' := 2) dX11_cut_1 rfl ?_
  obtain ⟨v1, hc, h⟩ := h
  refine ex_callV (as := [.int x1]) (st := []) (ci := 11) dX11_cut_2 zmX11_isMan zl_RX11_118 ziX11_isMan zvX11_isMan (by decide) (ly_a0 hL) rfl (Nat.le_of_ble_eq_true rfl) (Nat.le_of_ble_eq_true rfl) hc ?_
  refine ex_if (pc' := 22) dX11_cut_5 (by decide) (fun c => ?_) (fun c => ?_)
  · have h := h.1 c
    refine ex_step (pc' := 23) (st' := [.int (-1)]) dX11_cut_22 rfl ?_
    rw [h]; exact ex_ret (v := some (.int (-1))) ⟨dX11_cut_23, _, rfl, rfl⟩
  · have h := h.2 c
    refine ex_step (pc' := 9) dX11_cut_8 rfl ?_
    refine ex_getr dX11_cut_9 wf_RX11_34 (ly_a0 hL) rfl (ly_r0_5 hL) ?_
    refine ex_getr dX11_cut_12 wf_RX11_139 (zDy_o (ly_d47 hL)) rfl (zDy_r4 (ly_d47 hL)) ?_
    refine ex_step (pc' := 16) dX11_cut_15 rfl ?_
    refine ex_callS (as := [.ref (47 + 4), .int x1]) (st := []) dX11_cut_16 zmX11_at zl_RX11_125 zsX11_at rfl (Nat.le_of_ble_eq_true rfl) (Nat.le_of_ble_eq_true rfl) (S_at' (by decide) (zDy_a4 (ly_d47 hL))) ?_
    refine ex_if (pc' := 24) dX11_cut_19 (by decide) (fun c => ?_) (fun c => ?_)
    · have h := h.1 c
      refine ex_step (pc' := 25) dX11_cut_24 rfl ?_
      refine ex_getr dX11_cut_25 wf_RX11_44 (ly_a0 hL) rfl (ly_r0_7 hL) ?_
      refine ex_step (pc' := 29) dX11_cut_28 rfl ?_
      refine ex_getr dX11_cut_29 wf_RX11_34 (ly_a0 hL) rfl (ly_r0_5 hL) ?_
      obtain ⟨I2, hc, h⟩ := h
      refine ex_callV (as := [.ref 47]) (st := []) (ci := 3) dX11_cut_32 zmX3_remember zl_RX11_182 ziX3_remember zvX3_remember (by decide) (ly_a67 hL) rfl (Nat.le_of_ble_eq_true rfl) (Nat.le_of_ble_eq_true rfl) hc ?_
      refine ex_step (pc' := 36) dX11_cut_35 rfl ?_
      refine ex_getr dX11_cut_36 wf_RX11_34 (ly_a0 hL) rfl (ly_r0_5 hL) ?_
      refine ex_step (pc' := 40) dX11_cut_39 rfl ?_
      obtain ⟨v3, I4, hc, h⟩ := h
      refine ex_callV (as := [.int x1]) (st := []) (ci := 0) dX11_cut_40 zmX0_lose zl_RX11_199 ziX0_lose zvX0_lose (by decide) (zDy_o (ly_d47 hL)) rfl (Nat.le_of_ble_eq_true rfl) (Nat.le_of_ble_eq_true rfl) hc ?_
      rw [h]; exact ex_ret (v := some (.int v3)) ⟨dX11_cut_43, _, rfl, rfl⟩
    · have h := h.2 c
      refine ex_step (pc' := 23) (st' := [.int (-1)]) dX11_cut_22 rfl ?_
      rw [h]; exact ex_ret (v := some (.int (-1))) ⟨dX11_cut_23, _, rfl, rfl⟩
set_option maxHeartbeats 4000000 in
theorem BX11_run_0 {d : Nat} {Z : zZ} {I : zI} {J : zJ} {o : zO} {t u : Nat} (x1 : Int32) (hL : zLY Z t u)  (h : ((x1 < 0 → o = (some (.int (-1)), Z, I, J)) ∧ (¬ x1 < 0 → ((x1 ≤ 200 → ((x1 ≤ 0 → zE (d + 6) kX11_run 30 [some (.ref 0), some (.int x1), some (.int 0)] [] Z I J o) ∧ (¬ x1 ≤ 0 → (∃ (I1 : zI), zE (d + 5) kX3_remember 0 [some (.ref 67), some (.ref 47), none] [] Z I J (none, Z, I1, J) ∧ zE (d + 6) kX11_run 30 [some (.ref 0), some (.int x1), some (.int 0)] [] Z I1 J o)))) ∧ (¬ x1 ≤ 200 → o = (some (.int (-1)), Z, I, J)))))) : zE (d + 6) kX11_run 0 [some (.ref 0), some (.int x1), none] [] Z I J o := by
  refine ex_step (pc' := 1) dX11_run_0 rfl ?_
  refine ex_if (pc' := 11) dX11_run_1 (by decide) (fun c => ?_) (fun c => ?_)
  · have h := h.1 c
    refine ex_step (pc' := 12) (st' := [.int (-1)]) dX11_run_11 rfl ?_
    rw [h]; exact ex_ret (v := some (.int (-1))) ⟨dX11_run_12, _, rfl, rfl⟩
  · have h := h.2 c
    refine ex_step (pc' := 5) dX11_run_4 rfl ?_
    refine ex_step (pc' := 8) (st' := [.int 200, .int x1]) dX11_run_5 rfl ?_
    refine ex_icmp (pc' := 13) dX11_run_8 (by decide) (fun c => ?_) (fun c => ?_)
    · have h := h.1 c
      refine ex_step (pc' := 14) dX11_run_13 rfl ?_
      refine ex_if (pc' := 28) dX11_run_14 (by decide) (fun c => ?_) (fun c => ?_)
      · have h := h.1 c
        refine ex_step (pc' := 29) (st' := [.int 0]) dX11_run_28 rfl ?_
        refine ex_step (pc' := 30) (ls' := [some (.ref 0), some (.int x1), some (.int 0)]) dX11_run_29 rfl ?_
        exact h
      · have h := h.2 c
        refine ex_step (pc' := 18) dX11_run_17 rfl ?_
        refine ex_getr dX11_run_18 wf_RX11_44 (ly_a0 hL) rfl (ly_r0_7 hL) ?_
        refine ex_step (pc' := 22) dX11_run_21 rfl ?_
        refine ex_getr dX11_run_22 wf_RX11_34 (ly_a0 hL) rfl (ly_r0_5 hL) ?_
        obtain ⟨I1, hc, h⟩ := h
        refine ex_callV (as := [.ref 47]) (st := []) (ci := 3) dX11_run_25 zmX3_remember zl_RX11_182 ziX3_remember zvX3_remember (by decide) (ly_a67 hL) rfl (Nat.le_of_ble_eq_true rfl) (Nat.le_of_ble_eq_true rfl) hc ?_
        refine ex_step (pc' := 29) (st' := [.int 0]) dX11_run_28 rfl ?_
        refine ex_step (pc' := 30) (ls' := [some (.ref 0), some (.int x1), some (.int 0)]) dX11_run_29 rfl ?_
        exact h
    · have h := h.2 c
      refine ex_step (pc' := 12) (st' := [.int (-1)]) dX11_run_11 rfl ?_
      rw [h]; exact ex_ret (v := some (.int (-1))) ⟨dX11_run_12, _, rfl, rfl⟩
set_option maxHeartbeats 4000000 in
theorem BX11_run_30 {d : Nat} {Z : zZ} {I : zI} {J : zJ} {o : zO} {t u : Nat} (x1 : Int32) (x2 : Int32) (hL : zLY Z t u)  (h : ((x1 ≤ x2 → o = (some (.int (I 47 0)), Z, I, J)) ∧ (¬ x1 ≤ x2 → (∃ (I1 : zI), zE (d + 5) kX0_goBy 0 [some (.ref 47), some (.ref t), none] [] Z I J (none, Z, I1, J) ∧ zE (d + 6) kX11_run 30 [some (.ref 0), some (.int x1), some (.int (x2 + 1))] [] Z I1 J o)))) : zE (d + 6) kX11_run 30 [some (.ref 0), some (.int x1), some (.int x2)] [] Z I J o := by
  refine ex_step (pc' := 31) dX11_run_30 rfl ?_
  refine ex_step (pc' := 32) dX11_run_31 rfl ?_
  refine ex_icmp (pc' := 52) dX11_run_32 (by decide) (fun c => ?_) (fun c => ?_)
  · have h := h.1 c
    refine ex_step (pc' := 53) dX11_run_52 rfl ?_
    refine ex_getr dX11_run_53 wf_RX11_34 (ly_a0 hL) rfl (ly_r0_5 hL) ?_
    refine ex_geti dX11_run_56 wf_RX11_152 (zDy_o (ly_d47 hL)) rfl ?_
    rw [h]; exact ex_ret (v := some (.int (I 47 0))) ⟨dX11_run_59, _, rfl, rfl⟩
  · have h := h.2 c
    refine ex_step (pc' := 36) dX11_run_35 rfl ?_
    refine ex_getr dX11_run_36 wf_RX11_34 (ly_a0 hL) rfl (ly_r0_5 hL) ?_
    refine ex_step (pc' := 40) dX11_run_39 rfl ?_
    refine ex_getr dX11_run_40 wf_RX11_27 (ly_a0 hL) rfl (ly_text hL) ?_
    obtain ⟨I1, hc, h⟩ := h
    refine ex_callV (as := [.ref t]) (st := []) (ci := 0) dX11_run_43 zmX0_goBy zl_RX11_202 ziX0_goBy zvX0_goBy (by decide) (zDy_o (ly_d47 hL)) rfl (Nat.le_of_ble_eq_true rfl) (Nat.le_of_ble_eq_true rfl) hc ?_
    refine ex_step (pc' := 49) (ls' := [some (.ref 0), some (.int x1), some (.int (x2 + 1))]) dX11_run_46 rfl ?_
    refine ex_step (pc' := 30) dX11_run_49 rfl ?_
    exact h
set_option maxHeartbeats 4000000 in
theorem BX11_undo_0 {d : Nat} {Z : zZ} {I : zI} {J : zJ} {o : zO} {t u : Nat}  (hL : zLY Z t u)  (h : (∃ (v1 : Int32) (I2 : zI), zE (d + 3) kX3_takeBack 0 [some (.ref 67), some (.ref 47), none, none] [] Z I J (some (.int v1), Z, I2, J) ∧ (narrow .boolean (.int v1) = .int v1 ∧ o = (some (.int v1), Z, I2, J)))) : zE (d + 4) kX11_undo 0 [some (.ref 0)] [] Z I J o := by
  refine ex_step (pc' := 1) dX11_undo_0 rfl ?_
  refine ex_getr dX11_undo_1 wf_RX11_44 (ly_a0 hL) rfl (ly_r0_7 hL) ?_
  refine ex_step (pc' := 5) dX11_undo_4 rfl ?_
  refine ex_getr dX11_undo_5 wf_RX11_34 (ly_a0 hL) rfl (ly_r0_5 hL) ?_
  obtain ⟨v1, I2, hc, h⟩ := h
  refine ex_callV (as := [.ref 47]) (st := []) (ci := 3) dX11_undo_8 zmX3_takeBack zl_RX11_205 ziX3_takeBack zvX3_takeBack (by decide) (ly_a67 hL) rfl (Nat.le_of_ble_eq_true rfl) (Nat.le_of_ble_eq_true rfl) hc ?_
  obtain ⟨hn, h⟩ := h
  rw [h]; exact ex_ret (v := some (.int v1)) ⟨dX11_undo_11, _, rfl, hn⟩
set_option maxHeartbeats 4000000 in
theorem BX11_over_0 {d : Nat} {Z : zZ} {I : zI} {J : zJ} {o : zO} {t u : Nat} (x1 : Int32) (x2 : Int32) (hL : zLY Z t u)  (h : (∃ (v1 : Int32), zE (d + 1) kX11_areTwo 0 [some (.ref 0), some (.int x1), some (.int x2)] [] Z I J (some (.int v1), Z, I, J) ∧ ((v1 = 0 → o = (some (.int (-1)), Z, I, J)) ∧ (¬ v1 = 0 → (∃ (v2 : Int32), zE (d + 1) kX0_countOver 0 [some (.ref 47), some (.int x1), some (.int x2), none, none, none, none] [] Z I J (some (.int v2), Z, I, J) ∧ o = (some (.int v2), Z, I, J)))))) : zE (d + 2) kX11_over 0 [some (.ref 0), some (.int x1), some (.int x2)] [] Z I J o := by
  refine ex_step (pc' := 1) dX11_over_0 rfl ?_
  refine ex_step (pc' := 2) dX11_over_1 rfl ?_
  refine ex_step (pc' := 3) dX11_over_2 rfl ?_
  obtain ⟨v1, hc, h⟩ := h
  refine ex_callV (as := [.int x1, .int x2]) (st := []) (ci := 11) dX11_over_3 zmX11_areTwo zl_RX11_209 ziX11_areTwo zvX11_areTwo (by decide) (ly_a0 hL) rfl (Nat.le_of_ble_eq_true rfl) (Nat.le_of_ble_eq_true rfl) hc ?_
  refine ex_if (pc' := 21) dX11_over_6 (by decide) (fun c => ?_) (fun c => ?_)
  · have h := h.1 c
    refine ex_step (pc' := 22) (st' := [.int (-1)]) dX11_over_21 rfl ?_
    rw [h]; exact ex_ret (v := some (.int (-1))) ⟨dX11_over_22, _, rfl, rfl⟩
  · have h := h.2 c
    refine ex_step (pc' := 10) dX11_over_9 rfl ?_
    refine ex_getr dX11_over_10 wf_RX11_34 (ly_a0 hL) rfl (ly_r0_5 hL) ?_
    refine ex_step (pc' := 14) dX11_over_13 rfl ?_
    refine ex_step (pc' := 15) dX11_over_14 rfl ?_
    obtain ⟨v2, hc, h⟩ := h
    refine ex_callV (as := [.int x1, .int x2]) (st := []) (ci := 0) dX11_over_15 zmX0_countOver zl_RX11_213 ziX0_countOver zvX0_countOver (by decide) (zDy_o (ly_d47 hL)) rfl (Nat.le_of_ble_eq_true rfl) (Nat.le_of_ble_eq_true rfl) hc ?_
    refine ex_step (pc' := 22) dX11_over_18 rfl ?_
    rw [h]; exact ex_ret (v := some (.int v2)) ⟨dX11_over_22, _, rfl, rfl⟩
set_option maxHeartbeats 4000000 in
theorem BX11_waits_0 {d : Nat} {Z : zZ} {I : zI} {J : zJ} {o : zO} {t u : Nat} (x1 : Int32) (hL : zLY Z t u)  (h : (∃ (v1 : Int32), zE (d + 2) kX11_isMan 0 [some (.ref 0), some (.int x1)] [] Z I J (some (.int v1), Z, I, J) ∧ ((¬ v1 = 0 → (∃ (I2 : zI), zE (d + 2) kX7_look 0 [some (.ref 401), some (.ref t), some (.ref 47), none] [] Z I J (none, Z, I2, J) ∧ o = (some (.int (zat I2 402 7 x1)), Z, I2, J))) ∧ (v1 = 0 → o = (some (.int (-1)), Z, I, J))))) : zE (d + 3) kX11_waits 0 [some (.ref 0), some (.int x1)] [] Z I J o := by
  refine ex_step (pc' := 1) dX11_waits_0 rfl ?_
  refine ex_step (pc' := 2) dX11_waits_1 rfl ?_
  obtain ⟨v1, hc, h⟩ := h
  refine ex_callV (as := [.int x1]) (st := []) (ci := 11) dX11_waits_2 zmX11_isMan zl_RX11_118 ziX11_isMan zvX11_isMan (by decide) (ly_a0 hL) rfl (Nat.le_of_ble_eq_true rfl) (Nat.le_of_ble_eq_true rfl) hc ?_
  refine ex_if (pc' := 10) dX11_waits_5 (by decide) (fun c => ?_) (fun c => ?_)
  · have h := h.1 c
    refine ex_step (pc' := 11) dX11_waits_10 rfl ?_
    refine ex_getr dX11_waits_11 wf_RX11_51 (ly_a0 hL) rfl (ly_r0_8 hL) ?_
    refine ex_step (pc' := 15) dX11_waits_14 rfl ?_
    refine ex_getr dX11_waits_15 wf_RX11_27 (ly_a0 hL) rfl (ly_text hL) ?_
    refine ex_step (pc' := 19) dX11_waits_18 rfl ?_
    refine ex_getr dX11_waits_19 wf_RX11_34 (ly_a0 hL) rfl (ly_r0_5 hL) ?_
    obtain ⟨I2, hc, h⟩ := h
    refine ex_callV (as := [.ref t, .ref 47]) (st := []) (ci := 7) dX11_waits_22 zmX7_look zl_RX11_216 ziX7_look zvX7_look (by decide) (ly_a401 hL) rfl (Nat.le_of_ble_eq_true rfl) (Nat.le_of_ble_eq_true rfl) hc ?_
    refine ex_step (pc' := 26) dX11_waits_25 rfl ?_
    refine ex_getr dX11_waits_26 wf_RX11_51 (ly_a0 hL) rfl (ly_r0_8 hL) ?_
    refine ex_getr dX11_waits_29 wf_RX11_220 (ly_a401 hL) rfl (ly_r401_0 hL) ?_
    refine ex_step (pc' := 33) dX11_waits_32 rfl ?_
    refine ex_callS (as := [.ref 402, .int x1]) (st := []) dX11_waits_33 zmX11_at zl_RX11_125 zsX11_at rfl (Nat.le_of_ble_eq_true rfl) (Nat.le_of_ble_eq_true rfl) (S_at' (by decide) (ly_a402 hL)) ?_
    rw [h]; exact ex_ret (v := some (.int (zat I2 402 7 x1))) ⟨dX11_waits_36, _, rfl, rfl⟩
  · have h := h.2 (Classical.not_not.mp c)
    refine ex_step (pc' := 9) (st' := [.int (-1)]) dX11_waits_8 rfl ?_
    rw [h]; exact ex_ret (v := some (.int (-1))) ⟨dX11_waits_9, _, rfl, rfl⟩
set_option maxHeartbeats 4000000 in
theorem BX11_orders_0 {d : Nat} {Z : zZ} {I : zI} {J : zJ} {o : zO} {t u : Nat}  (hL : zLY Z t u)  (h : (∃ (I1 : zI), zE (d + 2) kX7_look 0 [some (.ref 401), some (.ref t), some (.ref 47), none] [] Z I J (none, Z, I1, J) ∧ (∃ (v2 : Int32) (I3 : zI), zE (d + 2) kX7_countOrders 0 [some (.ref 401), none, none, none, none] [] Z I1 J (some (.int v2), Z, I3, J) ∧ o = (some (.int v2), Z, I3, J)))) : zE (d + 3) kX11_orders 0 [some (.ref 0)] [] Z I J o := by
  refine ex_step (pc' := 1) dX11_orders_0 rfl ?_
  refine ex_getr dX11_orders_1 wf_RX11_51 (ly_a0 hL) rfl (ly_r0_8 hL) ?_
  refine ex_step (pc' := 5) dX11_orders_4 rfl ?_
  refine ex_getr dX11_orders_5 wf_RX11_27 (ly_a0 hL) rfl (ly_text hL) ?_
  refine ex_step (pc' := 9) dX11_orders_8 rfl ?_
  refine ex_getr dX11_orders_9 wf_RX11_34 (ly_a0 hL) rfl (ly_r0_5 hL) ?_
  obtain ⟨I1, hc, h⟩ := h
  refine ex_callV (as := [.ref t, .ref 47]) (st := []) (ci := 7) dX11_orders_12 zmX7_look zl_RX11_216 ziX7_look zvX7_look (by decide) (ly_a401 hL) rfl (Nat.le_of_ble_eq_true rfl) (Nat.le_of_ble_eq_true rfl) hc ?_
  refine ex_step (pc' := 16) dX11_orders_15 rfl ?_
  refine ex_getr dX11_orders_16 wf_RX11_51 (ly_a0 hL) rfl (ly_r0_8 hL) ?_
  obtain ⟨v2, I3, hc, h⟩ := h
  refine ex_callV (as := []) (st := []) (ci := 7) dX11_orders_19 zmX7_countOrders zl_RX11_223 ziX7_countOrders zvX7_countOrders (by decide) (ly_a401 hL) rfl (Nat.le_of_ble_eq_true rfl) (Nat.le_of_ble_eq_true rfl) hc ?_
  rw [h]; exact ex_ret (v := some (.int v2)) ⟨dX11_orders_22, _, rfl, rfl⟩
set_option maxHeartbeats 4000000 in
theorem BX11_orderAt_0 {d : Nat} {Z : zZ} {I : zI} {J : zJ} {o : zO} {t u : Nat} (x1 : Int32) (hL : zLY Z t u)  (h : ((0 ≤ x1 → (∃ (I1 : zI), zE (d + 2) kX7_look 0 [some (.ref 401), some (.ref t), some (.ref 47), none] [] Z I J (none, Z, I1, J) ∧ (∃ (v2 : Int32) (I3 : zI), zE (d + 2) kX7_findOrder 0 [some (.ref 401), some (.int 0), none, none, none] [] Z I1 J (some (.int v2), Z, I3, J) ∧ ((¬ v2 = 0 → (∃ (v4 : Int32), zE (d + 2) kJ6_bitCount_0f7a4 0 [some (.int (I3 401 3))] [] Z I3 J (some (.int v4), Z, I3, J) ∧ ((v4 ≤ x1 → o = (some (.int (-1)), Z, I3, J)) ∧ (¬ v4 ≤ x1 → o = (some (.int (zat I3 404 7 x1)), Z, I3, J))))) ∧ (v2 = 0 → o = (some (.int (-2)), Z, I3, J)))))) ∧ (¬ 0 ≤ x1 → o = (some (.int (-1)), Z, I, J)))) : zE (d + 3) kX11_orderAt 0 [some (.ref 0), some (.int x1)] [] Z I J o := by
  refine ex_step (pc' := 1) dX11_orderAt_0 rfl ?_
  refine ex_if (pc' := 6) dX11_orderAt_1 (by decide) (fun c => ?_) (fun c => ?_)
  · have h := h.1 c
    refine ex_step (pc' := 7) dX11_orderAt_6 rfl ?_
    refine ex_getr dX11_orderAt_7 wf_RX11_51 (ly_a0 hL) rfl (ly_r0_8 hL) ?_
    refine ex_step (pc' := 11) dX11_orderAt_10 rfl ?_
    refine ex_getr dX11_orderAt_11 wf_RX11_27 (ly_a0 hL) rfl (ly_text hL) ?_
    refine ex_step (pc' := 15) dX11_orderAt_14 rfl ?_
    refine ex_getr dX11_orderAt_15 wf_RX11_34 (ly_a0 hL) rfl (ly_r0_5 hL) ?_
    obtain ⟨I1, hc, h⟩ := h
    refine ex_callV (as := [.ref t, .ref 47]) (st := []) (ci := 7) dX11_orderAt_18 zmX7_look zl_RX11_216 ziX7_look zvX7_look (by decide) (ly_a401 hL) rfl (Nat.le_of_ble_eq_true rfl) (Nat.le_of_ble_eq_true rfl) hc ?_
    refine ex_step (pc' := 22) dX11_orderAt_21 rfl ?_
    refine ex_getr dX11_orderAt_22 wf_RX11_51 (ly_a0 hL) rfl (ly_r0_8 hL) ?_
    refine ex_step (pc' := 26) (st' := [.int 0, .ref 401]) dX11_orderAt_25 rfl ?_
    obtain ⟨v2, I3, hc, h⟩ := h
    refine ex_callV (as := [.int 0]) (st := []) (ci := 7) dX11_orderAt_26 zmX7_findOrder zl_RX11_226 ziX7_findOrder zvX7_findOrder (by decide) (ly_a401 hL) rfl (Nat.le_of_ble_eq_true rfl) (Nat.le_of_ble_eq_true rfl) hc ?_
    refine ex_if (pc' := 35) dX11_orderAt_29 (by decide) (fun c => ?_) (fun c => ?_)
    · have h := h.1 c
      refine ex_step (pc' := 36) dX11_orderAt_35 rfl ?_
      refine ex_step (pc' := 37) dX11_orderAt_36 rfl ?_
      refine ex_getr dX11_orderAt_37 wf_RX11_51 (ly_a0 hL) rfl (ly_r0_8 hL) ?_
      refine ex_geti dX11_orderAt_40 wf_RX11_229 (ly_a401 hL) rfl ?_
      obtain ⟨v4, hc, h⟩ := h
      refine ex_callS (as := [.int (I3 401 3)]) (st := [.int x1]) dX11_orderAt_43 zmJ6_bitCount_0f7a4 zl_RX11_232 zsJ6_bitCount_0f7a4 rfl (Nat.le_of_ble_eq_true rfl) (Nat.le_of_ble_eq_true rfl) hc ?_
      refine ex_icmp (pc' := 63) dX11_orderAt_46 (by decide) (fun c => ?_) (fun c => ?_)
      · have h := h.1 c
        refine ex_step (pc' := 64) (st' := [.int (-1)]) dX11_orderAt_63 rfl ?_
        rw [h]; exact ex_ret (v := some (.int (-1))) ⟨dX11_orderAt_64, _, rfl, rfl⟩
      · have h := h.2 c
        refine ex_step (pc' := 50) dX11_orderAt_49 rfl ?_
        refine ex_getr dX11_orderAt_50 wf_RX11_51 (ly_a0 hL) rfl (ly_r0_8 hL) ?_
        refine ex_getr dX11_orderAt_53 wf_RX11_237 (ly_a401 hL) rfl (ly_r401_2 hL) ?_
        refine ex_step (pc' := 57) dX11_orderAt_56 rfl ?_
        refine ex_callS (as := [.ref 404, .int x1]) (st := []) dX11_orderAt_57 zmX11_at zl_RX11_125 zsX11_at rfl (Nat.le_of_ble_eq_true rfl) (Nat.le_of_ble_eq_true rfl) (S_at' (by decide) (ly_a404 hL)) ?_
        refine ex_step (pc' := 64) dX11_orderAt_60 rfl ?_
        rw [h]; exact ex_ret (v := some (.int (zat I3 404 7 x1))) ⟨dX11_orderAt_64, _, rfl, rfl⟩
    · have h := h.2 (Classical.not_not.mp c)
      refine ex_step (pc' := 34) (st' := [.int (-2)]) dX11_orderAt_32 rfl ?_
      rw [h]; exact ex_ret (v := some (.int (-2))) ⟨dX11_orderAt_34, _, rfl, rfl⟩
  · have h := h.2 c
    refine ex_step (pc' := 5) (st' := [.int (-1)]) dX11_orderAt_4 rfl ?_
    rw [h]; exact ex_ret (v := some (.int (-1))) ⟨dX11_orderAt_5, _, rfl, rfl⟩
set_option maxHeartbeats 4000000 in
theorem BX11_cuts_0 {d : Nat} {Z : zZ} {I : zI} {J : zJ} {o : zO} {t u : Nat} (x1 : Int32) (hL : zLY Z t u)  (h : ((x1 < 0 → o = (some (.int (-1)), Z, I, J)) ∧ (¬ x1 < 0 → ((x1 ≤ 2 → (∃ (I1 : zI), zE (d + 3) kX7_look 0 [some (.ref 401), some (.ref t), some (.ref 47), none] [] Z I J (none, Z, I1, J) ∧ (∃ (v2 : Int32) (I3 : zI), zE (d + 3) kX7_fewestCuts 0 [some (.ref 401), some (.ref t), some (.ref 47), none, none] [] Z I1 J (some (.int v2), Z, I3, J) ∧ ((¬ x1 = 2 → ((¬ x1 = 0 → (∃ (v4 : Int32), zE (d + 3) kX0_countLying 0 [some (.ref 47), some (.ref t), some (.int v2), none, none] [] Z I3 J (some (.int v4), Z, I3, J) ∧ o = (some (.int v4), Z, I3, J))) ∧ (x1 = 0 → (∃ (v5 : Int32), zE (d + 3) kJ6_bitCount_0f7a4 0 [some (.int v2)] [] Z I3 J (some (.int v5), Z, I3, J) ∧ o = (some (.int v5), Z, I3, J))))) ∧ (x1 = 2 → o = (some (.int v2), Z, I3, J)))))) ∧ (¬ x1 ≤ 2 → o = (some (.int (-1)), Z, I, J)))))) : zE (d + 4) kX11_cuts 0 [some (.ref 0), some (.int x1), none] [] Z I J o := by
  refine ex_step (pc' := 1) dX11_cuts_0 rfl ?_
  refine ex_if (pc' := 9) dX11_cuts_1 (by decide) (fun c => ?_) (fun c => ?_)
  · have h := h.1 c
    refine ex_step (pc' := 10) (st' := [.int (-1)]) dX11_cuts_9 rfl ?_
    rw [h]; exact ex_ret (v := some (.int (-1))) ⟨dX11_cuts_10, _, rfl, rfl⟩
  · have h := h.2 c
    refine ex_step (pc' := 5) dX11_cuts_4 rfl ?_
    refine ex_step (pc' := 6) (st' := [.int 2, .int x1]) dX11_cuts_5 rfl ?_
    refine ex_icmp (pc' := 11) dX11_cuts_6 (by decide) (fun c => ?_) (fun c => ?_)
    · have h := h.1 c
      refine ex_step (pc' := 12) dX11_cuts_11 rfl ?_
      refine ex_getr dX11_cuts_12 wf_RX11_51 (ly_a0 hL) rfl (ly_r0_8 hL) ?_
      refine ex_step (pc' := 16) dX11_cuts_15 rfl ?_
      refine ex_getr dX11_cuts_16 wf_RX11_27 (ly_a0 hL) rfl (ly_text hL) ?_
      refine ex_step (pc' := 20) dX11_cuts_19 rfl ?_
      refine ex_getr dX11_cuts_20 wf_RX11_34 (ly_a0 hL) rfl (ly_r0_5 hL) ?_
      obtain ⟨I1, hc, h⟩ := h
      refine ex_callV (as := [.ref t, .ref 47]) (st := []) (ci := 7) dX11_cuts_23 zmX7_look zl_RX11_216 ziX7_look zvX7_look (by decide) (ly_a401 hL) rfl (Nat.le_of_ble_eq_true rfl) (Nat.le_of_ble_eq_true rfl) hc ?_
      refine ex_step (pc' := 27) dX11_cuts_26 rfl ?_
      refine ex_getr dX11_cuts_27 wf_RX11_51 (ly_a0 hL) rfl (ly_r0_8 hL) ?_
      refine ex_step (pc' := 31) dX11_cuts_30 rfl ?_
      refine ex_getr dX11_cuts_31 wf_RX11_27 (ly_a0 hL) rfl (ly_text hL) ?_
      refine ex_step (pc' := 35) dX11_cuts_34 rfl ?_
      refine ex_getr dX11_cuts_35 wf_RX11_34 (ly_a0 hL) rfl (ly_r0_5 hL) ?_
      obtain ⟨v2, I3, hc, h⟩ := h
      refine ex_callV (as := [.ref t, .ref 47]) (st := []) (ci := 7) dX11_cuts_38 zmX7_fewestCuts zl_RX11_240 ziX7_fewestCuts zvX7_fewestCuts (by decide) (ly_a401 hL) rfl (Nat.le_of_ble_eq_true rfl) (Nat.le_of_ble_eq_true rfl) hc ?_
      refine ex_step (pc' := 42) (ls' := [some (.ref 0), some (.int x1), some (.int v2)]) dX11_cuts_41 rfl ?_
      refine ex_step (pc' := 43) dX11_cuts_42 rfl ?_
      refine ex_step (pc' := 44) (st' := [.int 2, .int x1]) dX11_cuts_43 rfl ?_
      refine ex_icmp (pc' := 49) dX11_cuts_44 (by decide) (fun c => ?_) (fun c => ?_)
      · have h := h.1 c
        refine ex_step (pc' := 50) dX11_cuts_49 rfl ?_
        refine ex_if (pc' := 60) dX11_cuts_50 (by decide) (fun c => ?_) (fun c => ?_)
        · have h := h.1 c
          refine ex_step (pc' := 61) dX11_cuts_60 rfl ?_
          refine ex_getr dX11_cuts_61 wf_RX11_34 (ly_a0 hL) rfl (ly_r0_5 hL) ?_
          refine ex_step (pc' := 65) dX11_cuts_64 rfl ?_
          refine ex_getr dX11_cuts_65 wf_RX11_27 (ly_a0 hL) rfl (ly_text hL) ?_
          refine ex_step (pc' := 69) dX11_cuts_68 rfl ?_
          obtain ⟨v4, hc, h⟩ := h
          refine ex_callV (as := [.ref t, .int v2]) (st := []) (ci := 0) dX11_cuts_69 zmX0_countLying zl_RX11_244 ziX0_countLying zvX0_countLying (by decide) (zDy_o (ly_d47 hL)) rfl (Nat.le_of_ble_eq_true rfl) (Nat.le_of_ble_eq_true rfl) hc ?_
          rw [h]; exact ex_ret (v := some (.int v4)) ⟨dX11_cuts_72, _, rfl, rfl⟩
        · have h := h.2 (Classical.not_not.mp c)
          refine ex_step (pc' := 54) dX11_cuts_53 rfl ?_
          obtain ⟨v5, hc, h⟩ := h
          refine ex_callS (as := [.int v2]) (st := []) dX11_cuts_54 zmJ6_bitCount_0f7a4 zl_RX11_232 zsJ6_bitCount_0f7a4 rfl (Nat.le_of_ble_eq_true rfl) (Nat.le_of_ble_eq_true rfl) hc ?_
          refine ex_step (pc' := 72) dX11_cuts_57 rfl ?_
          rw [h]; exact ex_ret (v := some (.int v5)) ⟨dX11_cuts_72, _, rfl, rfl⟩
      · have h := h.2 (Classical.not_not.mp c)
        refine ex_step (pc' := 48) dX11_cuts_47 rfl ?_
        rw [h]; exact ex_ret (v := some (.int v2)) ⟨dX11_cuts_48, _, rfl, rfl⟩
    · have h := h.2 c
      refine ex_step (pc' := 10) (st' := [.int (-1)]) dX11_cuts_9 rfl ?_
      rw [h]; exact ex_ret (v := some (.int (-1))) ⟨dX11_cuts_10, _, rfl, rfl⟩
set_option maxHeartbeats 4000000 in
theorem BX11_way_0 {d : Nat} {Z : zZ} {I : zI} {J : zJ} {o : zO} {t u : Nat} (x1 : Int32) (hL : zLY Z t u)  (h : (∃ (v1 : Int32), zE (d + 5) kX11_isMan 0 [some (.ref 0), some (.int x1)] [] Z I J (some (.int v1), Z, I, J) ∧ ((¬ v1 = 0 → (∃ (I2 : zI), zE (d + 5) kX10_prepare 0 [some (.ref 407), some (.ref t), some (.int x1), none, none, none, none, none, none] [] Z I J (none, Z, I2, J) ∧ (∃ (v3 : Int32), zE (d + 5) kX10_fewest 0 [some (.ref 407), some (.ref t), some (.int x1), some (.int (zat I2 (t + 6) 7 x1)), some (.int (zat I2 (t + 7) 7 x1))] [] Z I2 J (some (.int v3), Z, I2, J) ∧ o = (some (.int v3), Z, I2, J)))) ∧ (v1 = 0 → o = (some (.int (-1)), Z, I, J))))) : zE (d + 6) kX11_way 0 [some (.ref 0), some (.int x1)] [] Z I J o := by
  refine ex_step (pc' := 1) dX11_way_0 rfl ?_
  refine ex_step (pc' := 2) dX11_way_1 rfl ?_
  obtain ⟨v1, hc, h⟩ := h
  refine ex_callV (as := [.int x1]) (st := []) (ci := 11) dX11_way_2 zmX11_isMan zl_RX11_118 ziX11_isMan zvX11_isMan (by decide) (ly_a0 hL) rfl (Nat.le_of_ble_eq_true rfl) (Nat.le_of_ble_eq_true rfl) hc ?_
  refine ex_if (pc' := 10) dX11_way_5 (by decide) (fun c => ?_) (fun c => ?_)
  · have h := h.1 c
    refine ex_step (pc' := 11) dX11_way_10 rfl ?_
    refine ex_getr dX11_way_11 wf_RX11_58 (ly_a0 hL) rfl (ly_r0_9 hL) ?_
    refine ex_step (pc' := 15) dX11_way_14 rfl ?_
    refine ex_getr dX11_way_15 wf_RX11_27 (ly_a0 hL) rfl (ly_text hL) ?_
    refine ex_step (pc' := 19) dX11_way_18 rfl ?_
    obtain ⟨I2, hc, h⟩ := h
    refine ex_callV (as := [.ref t, .int x1]) (st := []) (ci := 10) dX11_way_19 zmX10_prepare zl_RX11_247 ziX10_prepare zvX10_prepare (by decide) (ly_a407 hL) rfl (Nat.le_of_ble_eq_true rfl) (Nat.le_of_ble_eq_true rfl) hc ?_
    refine ex_step (pc' := 23) dX11_way_22 rfl ?_
    refine ex_getr dX11_way_23 wf_RX11_58 (ly_a0 hL) rfl (ly_r0_9 hL) ?_
    refine ex_step (pc' := 27) dX11_way_26 rfl ?_
    refine ex_getr dX11_way_27 wf_RX11_27 (ly_a0 hL) rfl (ly_text hL) ?_
    refine ex_step (pc' := 31) dX11_way_30 rfl ?_
    refine ex_step (pc' := 32) dX11_way_31 rfl ?_
    refine ex_getr dX11_way_32 wf_RX11_27 (ly_a0 hL) rfl (ly_text hL) ?_
    refine ex_getr dX11_way_35 wf_RX11_142 (zTx_o (ly_tx hL)) rfl (zTx_r7 (ly_tx hL)) ?_
    refine ex_step (pc' := 39) dX11_way_38 rfl ?_
    refine ex_callS (as := [.ref (t + 6), .int x1]) (st := [.int x1, .ref t, .ref 407]) dX11_way_39 zmX11_at zl_RX11_125 zsX11_at rfl (Nat.le_of_ble_eq_true rfl) (Nat.le_of_ble_eq_true rfl) (S_at' (by decide) (zTx_a6 (ly_tx hL))) ?_
    refine ex_step (pc' := 43) dX11_way_42 rfl ?_
    refine ex_getr dX11_way_43 wf_RX11_27 (ly_a0 hL) rfl (ly_text hL) ?_
    refine ex_getr dX11_way_46 wf_RX11_145 (zTx_o (ly_tx hL)) rfl (zTx_r8 (ly_tx hL)) ?_
    refine ex_step (pc' := 50) dX11_way_49 rfl ?_
    refine ex_callS (as := [.ref (t + 7), .int x1]) (st := [.int (zat I2 (t + 6) 7 x1), .int x1, .ref t, .ref 407]) dX11_way_50 zmX11_at zl_RX11_125 zsX11_at rfl (Nat.le_of_ble_eq_true rfl) (Nat.le_of_ble_eq_true rfl) (S_at' (by decide) (zTx_a7 (ly_tx hL))) ?_
    obtain ⟨v3, hc, h⟩ := h
    refine ex_callV (as := [.ref t, .int x1, .int (zat I2 (t + 6) 7 x1), .int (zat I2 (t + 7) 7 x1)]) (st := []) (ci := 10) dX11_way_53 zmX10_fewest zl_RX11_251 ziX10_fewest zvX10_fewest (by decide) (ly_a407 hL) rfl (Nat.le_of_ble_eq_true rfl) (Nat.le_of_ble_eq_true rfl) hc ?_
    rw [h]; exact ex_ret (v := some (.int v3)) ⟨dX11_way_56, _, rfl, rfl⟩
  · have h := h.2 (Classical.not_not.mp c)
    refine ex_step (pc' := 9) (st' := [.int (-1)]) dX11_way_8 rfl ?_
    rw [h]; exact ex_ret (v := some (.int (-1))) ⟨dX11_way_9, _, rfl, rfl⟩
set_option maxHeartbeats 4000000 in
theorem BX11_wayAt_0 {d : Nat} {Z : zZ} {I : zI} {J : zJ} {o : zO} {t u : Nat} (x1 : Int32) (x2 : Int32) (hL : zLY Z t u)  (h : (∃ (v1 : Int32), zE (d + 5) kX11_isMan 0 [some (.ref 0), some (.int x1)] [] Z I J (some (.int v1), Z, I, J) ∧ ((v1 = 0 → o = (some (.int (-1)), Z, I, J)) ∧ (¬ v1 = 0 → ((x2 < 0 → o = (some (.int (-1)), Z, I, J)) ∧ (¬ x2 < 0 → ((x2 < (zat I (t + 11) 7 x1) → (∃ (I2 : zI), zE (d + 5) kX10_prepare 0 [some (.ref 407), some (.ref t), some (.int x1), none, none, none, none, none, none] [] Z I J (none, Z, I2, J) ∧ (∃ (I3 : zI), zE (d + 5) kX10_findOrder 0 [some (.ref 407), some (.ref t), some (.int x1), none, none, none, none, none] [] Z I2 J (none, Z, I3, J) ∧ o = (some (.int (zat I3 408 6 x2)), Z, I3, J)))) ∧ (¬ x2 < (zat I (t + 11) 7 x1) → o = (some (.int (-1)), Z, I, J))))))))) : zE (d + 6) kX11_wayAt 0 [some (.ref 0), some (.int x1), some (.int x2)] [] Z I J o := by
  refine ex_step (pc' := 1) dX11_wayAt_0 rfl ?_
  refine ex_step (pc' := 2) dX11_wayAt_1 rfl ?_
  obtain ⟨v1, hc, h⟩ := h
  refine ex_callV (as := [.int x1]) (st := []) (ci := 11) dX11_wayAt_2 zmX11_isMan zl_RX11_118 ziX11_isMan zvX11_isMan (by decide) (ly_a0 hL) rfl (Nat.le_of_ble_eq_true rfl) (Nat.le_of_ble_eq_true rfl) hc ?_
  refine ex_if (pc' := 27) dX11_wayAt_5 (by decide) (fun c => ?_) (fun c => ?_)
  · have h := h.1 c
    refine ex_step (pc' := 28) (st' := [.int (-1)]) dX11_wayAt_27 rfl ?_
    rw [h]; exact ex_ret (v := some (.int (-1))) ⟨dX11_wayAt_28, _, rfl, rfl⟩
  · have h := h.2 c
    refine ex_step (pc' := 9) dX11_wayAt_8 rfl ?_
    refine ex_if (pc' := 27) dX11_wayAt_9 (by decide) (fun c => ?_) (fun c => ?_)
    · have h := h.1 c
      refine ex_step (pc' := 28) (st' := [.int (-1)]) dX11_wayAt_27 rfl ?_
      rw [h]; exact ex_ret (v := some (.int (-1))) ⟨dX11_wayAt_28, _, rfl, rfl⟩
    · have h := h.2 c
      refine ex_step (pc' := 13) dX11_wayAt_12 rfl ?_
      refine ex_step (pc' := 14) dX11_wayAt_13 rfl ?_
      refine ex_getr dX11_wayAt_14 wf_RX11_27 (ly_a0 hL) rfl (ly_text hL) ?_
      refine ex_getr dX11_wayAt_17 wf_RX11_255 (zTx_o (ly_tx hL)) rfl (zTx_r12 (ly_tx hL)) ?_
      refine ex_step (pc' := 21) dX11_wayAt_20 rfl ?_
      refine ex_callS (as := [.ref (t + 11), .int x1]) (st := [.int x2]) dX11_wayAt_21 zmX11_at zl_RX11_125 zsX11_at rfl (Nat.le_of_ble_eq_true rfl) (Nat.le_of_ble_eq_true rfl) (S_at' (by decide) (zTx_a11 (ly_tx hL))) ?_
      refine ex_icmp (pc' := 29) dX11_wayAt_24 (by decide) (fun c => ?_) (fun c => ?_)
      · have h := h.1 c
        refine ex_step (pc' := 30) dX11_wayAt_29 rfl ?_
        refine ex_getr dX11_wayAt_30 wf_RX11_58 (ly_a0 hL) rfl (ly_r0_9 hL) ?_
        refine ex_step (pc' := 34) dX11_wayAt_33 rfl ?_
        refine ex_getr dX11_wayAt_34 wf_RX11_27 (ly_a0 hL) rfl (ly_text hL) ?_
        refine ex_step (pc' := 38) dX11_wayAt_37 rfl ?_
        obtain ⟨I2, hc, h⟩ := h
        refine ex_callV (as := [.ref t, .int x1]) (st := []) (ci := 10) dX11_wayAt_38 zmX10_prepare zl_RX11_247 ziX10_prepare zvX10_prepare (by decide) (ly_a407 hL) rfl (Nat.le_of_ble_eq_true rfl) (Nat.le_of_ble_eq_true rfl) hc ?_
        refine ex_step (pc' := 42) dX11_wayAt_41 rfl ?_
        refine ex_getr dX11_wayAt_42 wf_RX11_58 (ly_a0 hL) rfl (ly_r0_9 hL) ?_
        refine ex_step (pc' := 46) dX11_wayAt_45 rfl ?_
        refine ex_getr dX11_wayAt_46 wf_RX11_27 (ly_a0 hL) rfl (ly_text hL) ?_
        refine ex_step (pc' := 50) dX11_wayAt_49 rfl ?_
        obtain ⟨I3, hc, h⟩ := h
        refine ex_callV (as := [.ref t, .int x1]) (st := []) (ci := 10) dX11_wayAt_50 zmX10_findOrder zl_RX11_258 ziX10_findOrder zvX10_findOrder (by decide) (ly_a407 hL) rfl (Nat.le_of_ble_eq_true rfl) (Nat.le_of_ble_eq_true rfl) hc ?_
        refine ex_step (pc' := 54) dX11_wayAt_53 rfl ?_
        refine ex_getr dX11_wayAt_54 wf_RX11_58 (ly_a0 hL) rfl (ly_r0_9 hL) ?_
        refine ex_getr dX11_wayAt_57 wf_RX11_260 (ly_a407 hL) rfl (ly_r407_0 hL) ?_
        refine ex_step (pc' := 61) dX11_wayAt_60 rfl ?_
        refine ex_callS (as := [.ref 408, .int x2]) (st := []) dX11_wayAt_61 zmX11_at zl_RX11_125 zsX11_at rfl (Nat.le_of_ble_eq_true rfl) (Nat.le_of_ble_eq_true rfl) (S_at' (by decide) (ly_a408 hL)) ?_
        rw [h]; exact ex_ret (v := some (.int (zat I3 408 6 x2))) ⟨dX11_wayAt_64, _, rfl, rfl⟩
      · have h := h.2 c
        refine ex_step (pc' := 28) (st' := [.int (-1)]) dX11_wayAt_27 rfl ?_
        rw [h]; exact ex_ret (v := some (.int (-1))) ⟨dX11_wayAt_28, _, rfl, rfl⟩
set_option maxHeartbeats 4000000 in
theorem BX11_lives_0 {d : Nat} {Z : zZ} {I : zI} {J : zJ} {o : zO} {t u : Nat} (x1 : Int32) (hL : zLY Z t u)  (h : (∃ (v1 : Int32), zE (d + 6) kX11_isMan 0 [some (.ref 0), some (.int x1)] [] Z I J (some (.int v1), Z, I, J) ∧ ((¬ v1 = 0 → (∃ (I2 : zI), zE (d + 6) kX10_prepare 0 [some (.ref 407), some (.ref t), some (.int x1), none, none, none, none, none, none] [] Z I J (none, Z, I2, J) ∧ (∃ (v3 : Int32), zE (d + 6) kX10_countHomes 0 [some (.ref 407), some (.ref t), some (.int x1), none, none, none, none] [] Z I2 J (some (.int v3), Z, I2, J) ∧ o = (some (.int v3), Z, I2, J)))) ∧ (v1 = 0 → o = (some (.int (-1)), Z, I, J))))) : zE (d + 7) kX11_lives 0 [some (.ref 0), some (.int x1)] [] Z I J o := by
  refine ex_step (pc' := 1) dX11_lives_0 rfl ?_
  refine ex_step (pc' := 2) dX11_lives_1 rfl ?_
  obtain ⟨v1, hc, h⟩ := h
  refine ex_callV (as := [.int x1]) (st := []) (ci := 11) dX11_lives_2 zmX11_isMan zl_RX11_118 ziX11_isMan zvX11_isMan (by decide) (ly_a0 hL) rfl (Nat.le_of_ble_eq_true rfl) (Nat.le_of_ble_eq_true rfl) hc ?_
  refine ex_if (pc' := 10) dX11_lives_5 (by decide) (fun c => ?_) (fun c => ?_)
  · have h := h.1 c
    refine ex_step (pc' := 11) dX11_lives_10 rfl ?_
    refine ex_getr dX11_lives_11 wf_RX11_58 (ly_a0 hL) rfl (ly_r0_9 hL) ?_
    refine ex_step (pc' := 15) dX11_lives_14 rfl ?_
    refine ex_getr dX11_lives_15 wf_RX11_27 (ly_a0 hL) rfl (ly_text hL) ?_
    refine ex_step (pc' := 19) dX11_lives_18 rfl ?_
    obtain ⟨I2, hc, h⟩ := h
    refine ex_callV (as := [.ref t, .int x1]) (st := []) (ci := 10) dX11_lives_19 zmX10_prepare zl_RX11_247 ziX10_prepare zvX10_prepare (by decide) (ly_a407 hL) rfl (Nat.le_of_ble_eq_true rfl) (Nat.le_of_ble_eq_true rfl) hc ?_
    refine ex_step (pc' := 23) dX11_lives_22 rfl ?_
    refine ex_getr dX11_lives_23 wf_RX11_58 (ly_a0 hL) rfl (ly_r0_9 hL) ?_
    refine ex_step (pc' := 27) dX11_lives_26 rfl ?_
    refine ex_getr dX11_lives_27 wf_RX11_27 (ly_a0 hL) rfl (ly_text hL) ?_
    refine ex_step (pc' := 31) dX11_lives_30 rfl ?_
    obtain ⟨v3, hc, h⟩ := h
    refine ex_callV (as := [.ref t, .int x1]) (st := []) (ci := 10) dX11_lives_31 zmX10_countHomes zl_RX11_261 ziX10_countHomes zvX10_countHomes (by decide) (ly_a407 hL) rfl (Nat.le_of_ble_eq_true rfl) (Nat.le_of_ble_eq_true rfl) hc ?_
    rw [h]; exact ex_ret (v := some (.int v3)) ⟨dX11_lives_34, _, rfl, rfl⟩
  · have h := h.2 (Classical.not_not.mp c)
    refine ex_step (pc' := 9) (st' := [.int (-1)]) dX11_lives_8 rfl ?_
    rw [h]; exact ex_ret (v := some (.int (-1))) ⟨dX11_lives_9, _, rfl, rfl⟩
set_option maxHeartbeats 4000000 in
theorem BX11_turns_0 {d : Nat} {Z : zZ} {I : zI} {J : zJ} {o : zO} {t u : Nat} (x1 : Int32) (x2 : Int32) (hL : zLY Z t u)  (h : (∃ (v1 : Int32), zE (d + 1) kX11_isMan 0 [some (.ref 0), some (.int x1)] [] Z I J (some (.int v1), Z, I, J) ∧ ((v1 = 0 → o = (some (.int (-1000)), Z, I, J)) ∧ (¬ v1 = 0 → ((x2 < 0 → o = (some (.int (-1000)), Z, I, J)) ∧ (¬ x2 < 0 → ((x2 < (I t 3) → (∃ (v2 : Int32), zE (d + 1) kX0_turnsAbout 0 [some (.ref 47), some (.int x1), some (.int (zat I (t + 14) 6 x2)), some (.int (zat I (t + 15) 6 x2)), none, none, none, none, none] [] Z I J (some (.int v2), Z, I, J) ∧ o = (some (.int v2), Z, I, J))) ∧ (¬ x2 < (I t 3) → o = (some (.int (-1000)), Z, I, J))))))))) : zE (d + 2) kX11_turns 0 [some (.ref 0), some (.int x1), some (.int x2)] [] Z I J o := by
  refine ex_step (pc' := 1) dX11_turns_0 rfl ?_
  refine ex_step (pc' := 2) dX11_turns_1 rfl ?_
  obtain ⟨v1, hc, h⟩ := h
  refine ex_callV (as := [.int x1]) (st := []) (ci := 11) dX11_turns_2 zmX11_isMan zl_RX11_118 ziX11_isMan zvX11_isMan (by decide) (ly_a0 hL) rfl (Nat.le_of_ble_eq_true rfl) (Nat.le_of_ble_eq_true rfl) hc ?_
  refine ex_if (pc' := 23) dX11_turns_5 (by decide) (fun c => ?_) (fun c => ?_)
  · have h := h.1 c
    refine ex_step (pc' := 26) (st' := [.int (-1000)]) dX11_turns_23 rfl ?_
    rw [h]; exact ex_ret (v := some (.int (-1000))) ⟨dX11_turns_26, _, rfl, rfl⟩
  · have h := h.2 c
    refine ex_step (pc' := 9) dX11_turns_8 rfl ?_
    refine ex_if (pc' := 23) dX11_turns_9 (by decide) (fun c => ?_) (fun c => ?_)
    · have h := h.1 c
      refine ex_step (pc' := 26) (st' := [.int (-1000)]) dX11_turns_23 rfl ?_
      rw [h]; exact ex_ret (v := some (.int (-1000))) ⟨dX11_turns_26, _, rfl, rfl⟩
    · have h := h.2 c
      refine ex_step (pc' := 13) dX11_turns_12 rfl ?_
      refine ex_step (pc' := 14) dX11_turns_13 rfl ?_
      refine ex_getr dX11_turns_14 wf_RX11_27 (ly_a0 hL) rfl (ly_text hL) ?_
      refine ex_geti dX11_turns_17 wf_RX11_264 (zTx_o (ly_tx hL)) rfl ?_
      refine ex_icmp (pc' := 27) dX11_turns_20 (by decide) (fun c => ?_) (fun c => ?_)
      · have h := h.1 c
        refine ex_step (pc' := 28) dX11_turns_27 rfl ?_
        refine ex_getr dX11_turns_28 wf_RX11_34 (ly_a0 hL) rfl (ly_r0_5 hL) ?_
        refine ex_step (pc' := 32) dX11_turns_31 rfl ?_
        refine ex_step (pc' := 33) dX11_turns_32 rfl ?_
        refine ex_getr dX11_turns_33 wf_RX11_27 (ly_a0 hL) rfl (ly_text hL) ?_
        refine ex_getr dX11_turns_36 wf_RX11_267 (zTx_o (ly_tx hL)) rfl (zTx_r15 (ly_tx hL)) ?_
        refine ex_step (pc' := 40) dX11_turns_39 rfl ?_
        refine ex_callS (as := [.ref (t + 14), .int x2]) (st := [.int x1, .ref 47]) dX11_turns_40 zmX11_at zl_RX11_125 zsX11_at rfl (Nat.le_of_ble_eq_true rfl) (Nat.le_of_ble_eq_true rfl) (S_at' (by decide) (zTx_a14 (ly_tx hL))) ?_
        refine ex_step (pc' := 44) dX11_turns_43 rfl ?_
        refine ex_getr dX11_turns_44 wf_RX11_27 (ly_a0 hL) rfl (ly_text hL) ?_
        refine ex_getr dX11_turns_47 wf_RX11_270 (zTx_o (ly_tx hL)) rfl (zTx_r16 (ly_tx hL)) ?_
        refine ex_step (pc' := 51) dX11_turns_50 rfl ?_
        refine ex_callS (as := [.ref (t + 15), .int x2]) (st := [.int (zat I (t + 14) 6 x2), .int x1, .ref 47]) dX11_turns_51 zmX11_at zl_RX11_125 zsX11_at rfl (Nat.le_of_ble_eq_true rfl) (Nat.le_of_ble_eq_true rfl) (S_at' (by decide) (zTx_a15 (ly_tx hL))) ?_
        obtain ⟨v2, hc, h⟩ := h
        refine ex_callV (as := [.int x1, .int (zat I (t + 14) 6 x2), .int (zat I (t + 15) 6 x2)]) (st := []) (ci := 0) dX11_turns_54 zmX0_turnsAbout zl_RX11_273 ziX0_turnsAbout zvX0_turnsAbout (by decide) (zDy_o (ly_d47 hL)) rfl (Nat.le_of_ble_eq_true rfl) (Nat.le_of_ble_eq_true rfl) hc ?_
        rw [h]; exact ex_ret (v := some (.int v2)) ⟨dX11_turns_57, _, rfl, rfl⟩
      · have h := h.2 c
        refine ex_step (pc' := 26) (st' := [.int (-1000)]) dX11_turns_23 rfl ?_
        rw [h]; exact ex_ret (v := some (.int (-1000))) ⟨dX11_turns_26, _, rfl, rfl⟩
set_option maxHeartbeats 4000000 in
theorem BX11_meet_0 {d : Nat} {Z : zZ} {I : zI} {J : zJ} {o : zO} {t u : Nat} (x1 : Int32) (x2 : Int32) (hL : zLY Z t u)  (h : (∃ (v1 : Int32), zE (d + 5) kX11_areTwo 0 [some (.ref 0), some (.int x1), some (.int x2)] [] Z I J (some (.int v1), Z, I, J) ∧ ((¬ v1 = 0 → (∃ (I2 : zI), zE (d + 5) kX0_copy 0 [some (.ref 57), some (.ref 47)] [] Z I J (none, Z, I2, J) ∧ zE (d + 6) kX11_meet 24 [some (.ref 0), some (.int x1), some (.int x2), some (.int 0)] [] Z I2 J o)) ∧ (v1 = 0 → o = (some (.int (-1)), Z, I, J))))) : zE (d + 6) kX11_meet 0 [some (.ref 0), some (.int x1), some (.int x2), none] [] Z I J o := by
  refine ex_step (pc' := 1) dX11_meet_0 rfl ?_
  refine ex_step (pc' := 2) dX11_meet_1 rfl ?_
  refine ex_step (pc' := 3) dX11_meet_2 rfl ?_
  obtain ⟨v1, hc, h⟩ := h
  refine ex_callV (as := [.int x1, .int x2]) (st := []) (ci := 11) dX11_meet_3 zmX11_areTwo zl_RX11_209 ziX11_areTwo zvX11_areTwo (by decide) (ly_a0 hL) rfl (Nat.le_of_ble_eq_true rfl) (Nat.le_of_ble_eq_true rfl) hc ?_
  refine ex_if (pc' := 11) dX11_meet_6 (by decide) (fun c => ?_) (fun c => ?_)
  · have h := h.1 c
    refine ex_step (pc' := 12) dX11_meet_11 rfl ?_
    refine ex_getr dX11_meet_12 wf_RX11_38 (ly_a0 hL) rfl (ly_r0_6 hL) ?_
    refine ex_step (pc' := 16) dX11_meet_15 rfl ?_
    refine ex_getr dX11_meet_16 wf_RX11_34 (ly_a0 hL) rfl (ly_r0_5 hL) ?_
    obtain ⟨I2, hc, h⟩ := h
    refine ex_callV (as := [.ref 47]) (st := []) (ci := 0) dX11_meet_19 zmX0_copy zl_RX11_277 ziX0_copy zvX0_copy (by decide) (zDy_o (ly_d57 hL)) rfl (Nat.le_of_ble_eq_true rfl) (Nat.le_of_ble_eq_true rfl) hc ?_
    refine ex_step (pc' := 23) (st' := [.int 0]) dX11_meet_22 rfl ?_
    refine ex_step (pc' := 24) (ls' := [some (.ref 0), some (.int x1), some (.int x2), some (.int 0)]) dX11_meet_23 rfl ?_
    exact h
  · have h := h.2 (Classical.not_not.mp c)
    refine ex_step (pc' := 10) (st' := [.int (-1)]) dX11_meet_9 rfl ?_
    rw [h]; exact ex_ret (v := some (.int (-1))) ⟨dX11_meet_10, _, rfl, rfl⟩
set_option maxHeartbeats 4000000 in
theorem BX11_meet_24 {d : Nat} {Z : zZ} {I : zI} {J : zJ} {o : zO} {t u : Nat} (x1 : Int32) (x2 : Int32) (x3 : Int32) (hL : zLY Z t u)  (h : ((200 < x3 → o = (some (.int (-2)), Z, I, J)) ∧ (¬ 200 < x3 → (∃ (v1 : Int32), zE (d + 5) kX0_span 0 [some (.ref 57), some (.int x1), some (.int x2)] [] Z I J (some (.int v1), Z, I, J) ∧ ((¬ v1 = 0 → (∃ (I2 : zI), zE (d + 5) kX0_goBy 0 [some (.ref 57), some (.ref t), none] [] Z I J (none, Z, I2, J) ∧ zE (d + 6) kX11_meet 24 [some (.ref 0), some (.int x1), some (.int x2), some (.int (x3 + 1))] [] Z I2 J o)) ∧ (v1 = 0 → o = (some (.int x3), Z, I, J))))))) : zE (d + 6) kX11_meet 24 [some (.ref 0), some (.int x1), some (.int x2), some (.int x3)] [] Z I J o := by
  refine ex_step (pc' := 25) dX11_meet_24 rfl ?_
  refine ex_step (pc' := 28) (st' := [.int 200, .int x3]) dX11_meet_25 rfl ?_
  refine ex_icmp (pc' := 62) dX11_meet_28 (by decide) (fun c => ?_) (fun c => ?_)
  · have h := h.1 c
    refine ex_step (pc' := 64) (st' := [.int (-2)]) dX11_meet_62 rfl ?_
    rw [h]; exact ex_ret (v := some (.int (-2))) ⟨dX11_meet_64, _, rfl, rfl⟩
  · have h := h.2 c
    refine ex_step (pc' := 32) dX11_meet_31 rfl ?_
    refine ex_getr dX11_meet_32 wf_RX11_38 (ly_a0 hL) rfl (ly_r0_6 hL) ?_
    refine ex_step (pc' := 36) dX11_meet_35 rfl ?_
    refine ex_step (pc' := 37) dX11_meet_36 rfl ?_
    obtain ⟨v1, hc, h⟩ := h
    refine ex_callV (as := [.int x1, .int x2]) (st := []) (ci := 0) dX11_meet_37 zmX0_span zl_RX11_280 ziX0_span zvX0_span (by decide) (zDy_o (ly_d57 hL)) rfl (Nat.le_of_ble_eq_true rfl) (Nat.le_of_ble_eq_true rfl) hc ?_
    refine ex_if (pc' := 45) dX11_meet_40 (by decide) (fun c => ?_) (fun c => ?_)
    · have h := h.1 c
      refine ex_step (pc' := 46) dX11_meet_45 rfl ?_
      refine ex_getr dX11_meet_46 wf_RX11_38 (ly_a0 hL) rfl (ly_r0_6 hL) ?_
      refine ex_step (pc' := 50) dX11_meet_49 rfl ?_
      refine ex_getr dX11_meet_50 wf_RX11_27 (ly_a0 hL) rfl (ly_text hL) ?_
      obtain ⟨I2, hc, h⟩ := h
      refine ex_callV (as := [.ref t]) (st := []) (ci := 0) dX11_meet_53 zmX0_goBy zl_RX11_202 ziX0_goBy zvX0_goBy (by decide) (zDy_o (ly_d57 hL)) rfl (Nat.le_of_ble_eq_true rfl) (Nat.le_of_ble_eq_true rfl) hc ?_
      refine ex_step (pc' := 59) (ls' := [some (.ref 0), some (.int x1), some (.int x2), some (.int (x3 + 1))]) dX11_meet_56 rfl ?_
      refine ex_step (pc' := 24) dX11_meet_59 rfl ?_
      exact h
    · have h := h.2 (Classical.not_not.mp c)
      refine ex_step (pc' := 44) dX11_meet_43 rfl ?_
      rw [h]; exact ex_ret (v := some (.int x3)) ⟨dX11_meet_44, _, rfl, rfl⟩
set_option maxHeartbeats 4000000 in
theorem BX11_most_0 {d : Nat} {Z : zZ} {I : zI} {J : zJ} {o : zO} {t u : Nat} (x1 : Int32) (hL : zLY Z t u)  (h : ((x1 = 0 → zE (d + 3) kX11_most 20 [some (.ref 0), some (.int x1), some (.int (-2)), some (.int (-2)), some (.int 0), none] [] Z I J o) ∧ (¬ x1 = 0 → ((x1 = 1 → zE (d + 3) kX11_most 20 [some (.ref 0), some (.int x1), some (.int (-2)), some (.int (-2)), some (.int 0), none] [] Z I J o) ∧ (¬ x1 = 1 → o = (some (.int (-1)), Z, I, J)))))) : zE (d + 3) kX11_most 0 [some (.ref 0), some (.int x1), none, none, none, none] [] Z I J o := by
  refine ex_step (pc' := 1) dX11_most_0 rfl ?_
  refine ex_if (pc' := 11) dX11_most_1 (by decide) (fun c => ?_) (fun c => ?_)
  · have h := h.1 c
    refine ex_step (pc' := 13) (st' := [.int (-2)]) dX11_most_11 rfl ?_
    refine ex_step (pc' := 14) (ls' := [some (.ref 0), some (.int x1), some (.int (-2)), none, none, none]) dX11_most_13 rfl ?_
    refine ex_step (pc' := 16) (st' := [.int (-2)]) dX11_most_14 rfl ?_
    refine ex_step (pc' := 17) (ls' := [some (.ref 0), some (.int x1), some (.int (-2)), some (.int (-2)), none, none]) dX11_most_16 rfl ?_
    refine ex_step (pc' := 18) (st' := [.int 0]) dX11_most_17 rfl ?_
    refine ex_step (pc' := 20) (ls' := [some (.ref 0), some (.int x1), some (.int (-2)), some (.int (-2)), some (.int 0), none]) dX11_most_18 rfl ?_
    exact h
  · have h := h.2 c
    refine ex_step (pc' := 5) dX11_most_4 rfl ?_
    refine ex_step (pc' := 6) (st' := [.int 1, .int x1]) dX11_most_5 rfl ?_
    refine ex_icmp (pc' := 11) dX11_most_6 (by decide) (fun c => ?_) (fun c => ?_)
    · have h := h.1 c
      refine ex_step (pc' := 13) (st' := [.int (-2)]) dX11_most_11 rfl ?_
      refine ex_step (pc' := 14) (ls' := [some (.ref 0), some (.int x1), some (.int (-2)), none, none, none]) dX11_most_13 rfl ?_
      refine ex_step (pc' := 16) (st' := [.int (-2)]) dX11_most_14 rfl ?_
      refine ex_step (pc' := 17) (ls' := [some (.ref 0), some (.int x1), some (.int (-2)), some (.int (-2)), none, none]) dX11_most_16 rfl ?_
      refine ex_step (pc' := 18) (st' := [.int 0]) dX11_most_17 rfl ?_
      refine ex_step (pc' := 20) (ls' := [some (.ref 0), some (.int x1), some (.int (-2)), some (.int (-2)), some (.int 0), none]) dX11_most_18 rfl ?_
      exact h
    · have h := h.2 c
      refine ex_step (pc' := 10) (st' := [.int (-1)]) dX11_most_9 rfl ?_
      rw [h]; exact ex_ret (v := some (.int (-1))) ⟨dX11_most_10, _, rfl, rfl⟩
set_option maxHeartbeats 4000000 in
theorem BX11_most_20 {d : Nat} {Z : zZ} {I : zI} {J : zJ} {o : zO} {t u : Nat} (x1 : Int32) (x2 : Int32) (x3 : Int32) (x4 : Int32) (hL : zLY Z t u)  (h : (((I t 2) ≤ x4 → ((¬ x1 = 0 → o = (some (.int x3), Z, I, J)) ∧ (x1 = 0 → o = (some (.int x2), Z, I, J)))) ∧ (¬ (I t 2) ≤ x4 → (∃ (v1 : Int32), zE (d + 2) kX0_countOverOthers 0 [some (.ref 47), some (.int x4), none, none] [] Z I J (some (.int v1), Z, I, J) ∧ ((v1 ≤ x3 → zE (d + 3) kX11_most 20 [some (.ref 0), some (.int x1), some (.int x2), some (.int x3), some (.int (x4 + 1)), none] [] Z I J o) ∧ (¬ v1 ≤ x3 → zE (d + 3) kX11_most 20 [some (.ref 0), some (.int x1), some (.int x4), some (.int v1), some (.int (x4 + 1)), none] [] Z I J o)))))) : zE (d + 3) kX11_most 20 [some (.ref 0), some (.int x1), some (.int x2), some (.int x3), some (.int x4), none] [] Z I J o := by
  refine ex_step (pc' := 22) dX11_most_20 rfl ?_
  refine ex_step (pc' := 23) dX11_most_22 rfl ?_
  refine ex_getr dX11_most_23 wf_RX11_27 (ly_a0 hL) rfl (ly_text hL) ?_
  refine ex_geti dX11_most_26 wf_RX11_283 (zTx_o (ly_tx hL)) rfl ?_
  refine ex_icmp (pc' := 61) dX11_most_29 (by decide) (fun c => ?_) (fun c => ?_)
  · have h := h.1 c
    refine ex_step (pc' := 62) dX11_most_61 rfl ?_
    refine ex_if (pc' := 69) dX11_most_62 (by decide) (fun c => ?_) (fun c => ?_)
    · have h := h.1 c
      refine ex_step (pc' := 70) dX11_most_69 rfl ?_
      rw [h]; exact ex_ret (v := some (.int x3)) ⟨dX11_most_70, _, rfl, rfl⟩
    · have h := h.2 (Classical.not_not.mp c)
      refine ex_step (pc' := 66) dX11_most_65 rfl ?_
      refine ex_step (pc' := 70) dX11_most_66 rfl ?_
      rw [h]; exact ex_ret (v := some (.int x2)) ⟨dX11_most_70, _, rfl, rfl⟩
  · have h := h.2 c
    refine ex_step (pc' := 33) dX11_most_32 rfl ?_
    refine ex_getr dX11_most_33 wf_RX11_34 (ly_a0 hL) rfl (ly_r0_5 hL) ?_
    refine ex_step (pc' := 38) dX11_most_36 rfl ?_
    obtain ⟨v1, hc, h⟩ := h
    refine ex_callV (as := [.int x4]) (st := []) (ci := 0) dX11_most_38 zmX0_countOverOthers zl_RX11_286 ziX0_countOverOthers zvX0_countOverOthers (by decide) (zDy_o (ly_d47 hL)) rfl (Nat.le_of_ble_eq_true rfl) (Nat.le_of_ble_eq_true rfl) hc ?_
    refine ex_step (pc' := 43) (ls' := [some (.ref 0), some (.int x1), some (.int x2), some (.int x3), some (.int x4), some (.int v1)]) dX11_most_41 rfl ?_
    refine ex_step (pc' := 45) dX11_most_43 rfl ?_
    refine ex_step (pc' := 46) dX11_most_45 rfl ?_
    refine ex_icmp (pc' := 55) dX11_most_46 (by decide) (fun c => ?_) (fun c => ?_)
    · have h := h.1 c
      refine ex_step (pc' := 58) (ls' := [some (.ref 0), some (.int x1), some (.int x2), some (.int x3), some (.int (x4 + 1)), some (.int v1)]) dX11_most_55 rfl ?_
      refine ex_step (pc' := 20) dX11_most_58 rfl ?_
      exact ex_less (ls' := [some (.ref 0), some (.int x1), some (.int x2), some (.int x3), some (.int (x4 + 1)), none]) ⟨rfl, ⟨rfl, ⟨rfl, ⟨rfl, ⟨rfl, trivial⟩⟩⟩⟩⟩ h
    · have h := h.2 c
      refine ex_step (pc' := 51) dX11_most_49 rfl ?_
      refine ex_step (pc' := 52) (ls' := [some (.ref 0), some (.int x1), some (.int x4), some (.int x3), some (.int x4), some (.int v1)]) dX11_most_51 rfl ?_
      refine ex_step (pc' := 54) dX11_most_52 rfl ?_
      refine ex_step (pc' := 55) (ls' := [some (.ref 0), some (.int x1), some (.int x4), some (.int v1), some (.int x4), some (.int v1)]) dX11_most_54 rfl ?_
      refine ex_step (pc' := 58) (ls' := [some (.ref 0), some (.int x1), some (.int x4), some (.int v1), some (.int (x4 + 1)), some (.int v1)]) dX11_most_55 rfl ?_
      refine ex_step (pc' := 20) dX11_most_58 rfl ?_
      exact ex_less (ls' := [some (.ref 0), some (.int x1), some (.int x4), some (.int v1), some (.int (x4 + 1)), none]) ⟨rfl, ⟨rfl, ⟨rfl, ⟨rfl, ⟨rfl, trivial⟩⟩⟩⟩⟩ h
set_option maxHeartbeats 4000000 in
theorem BX11_street_0 {d : Nat} {Z : zZ} {I : zI} {J : zJ} {o : zO} {t u : Nat} (x1 : Int32) (x2 : Int32) (x3 : Int32) (x4 : Int32) (hL : zLY Z t u)  (h : (∃ (v1 : Int32), zE (d + 2) kX6_hasStreet 0 [some (.ref t), some (.int x1), some (.int x2), some (.int x3)] [] Z I J (some (.int v1), Z, I, J) ∧ ((v1 = 0 → o = (some (.int (-1)), Z, I, J)) ∧ (¬ v1 = 0 → (((-1) ≤ x4 → (∃ (v2 : Int32), zE (d + 2) kX0_countOn 0 [some (.ref 47), some (.int (zsc x1 x2 x3)), none] [] Z I J (some (.int v2), Z, I, J) ∧ ((¬ x4 = (-1) → ((v2 ≤ x4 → o = (some (.int (-1)), Z, I, J)) ∧ (¬ v2 ≤ x4 → (∃ (v3 : Int32), zE (d + 2) kX0_fromTop 0 [some (.ref 47), some (.int (zsc x1 x2 x3)), some (.int ((v2 - 1) - x4)), none, none] [] Z I J (some (.int v3), Z, I, J) ∧ o = (some (.int (zow v3)), Z, I, J))))) ∧ (x4 = (-1) → o = (some (.int v2), Z, I, J))))) ∧ (¬ (-1) ≤ x4 → o = (some (.int (-1)), Z, I, J))))))) : zE (d + 3) kX11_street 0 [some (.ref 0), some (.int x1), some (.int x2), some (.int x3), some (.int x4), none, none] [] Z I J o := by
  refine ex_step (pc' := 1) dX11_street_0 rfl ?_
  refine ex_getr dX11_street_1 wf_RX11_27 (ly_a0 hL) rfl (ly_text hL) ?_
  refine ex_step (pc' := 5) dX11_street_4 rfl ?_
  refine ex_step (pc' := 6) dX11_street_5 rfl ?_
  refine ex_step (pc' := 7) dX11_street_6 rfl ?_
  obtain ⟨v1, hc, h⟩ := h
  refine ex_callV (as := [.int x1, .int x2, .int x3]) (st := []) (ci := 6) dX11_street_7 zmX6_hasStreet zl_RX11_289 ziX6_hasStreet zvX6_hasStreet (by decide) (zTx_o (ly_tx hL)) rfl (Nat.le_of_ble_eq_true rfl) (Nat.le_of_ble_eq_true rfl) hc ?_
  refine ex_if (pc' := 19) dX11_street_10 (by decide) (fun c => ?_) (fun c => ?_)
  · have h := h.1 c
    refine ex_step (pc' := 20) (st' := [.int (-1)]) dX11_street_19 rfl ?_
    rw [h]; exact ex_ret (v := some (.int (-1))) ⟨dX11_street_20, _, rfl, rfl⟩
  · have h := h.2 c
    refine ex_step (pc' := 15) dX11_street_13 rfl ?_
    refine ex_step (pc' := 16) (st' := [.int (-1), .int x4]) dX11_street_15 rfl ?_
    refine ex_icmp (pc' := 21) dX11_street_16 (by decide) (fun c => ?_) (fun c => ?_)
    · have h := h.1 c
      refine ex_step (pc' := 22) dX11_street_21 rfl ?_
      refine ex_step (pc' := 23) dX11_street_22 rfl ?_
      refine ex_step (pc' := 24) dX11_street_23 rfl ?_
      refine ex_callS (as := [.int x1, .int x2, .int x3]) (st := []) dX11_street_24 zmX11_streetOf zl_RX11_293 zsX11_streetOf rfl (Nat.le_of_ble_eq_true rfl) (Nat.le_of_ble_eq_true rfl) S_streetOf ?_
      refine ex_step (pc' := 29) (ls' := [some (.ref 0), some (.int x1), some (.int x2), some (.int x3), some (.int x4), some (.int (zsc x1 x2 x3)), none]) dX11_street_27 rfl ?_
      refine ex_step (pc' := 30) dX11_street_29 rfl ?_
      refine ex_getr dX11_street_30 wf_RX11_34 (ly_a0 hL) rfl (ly_r0_5 hL) ?_
      refine ex_step (pc' := 35) dX11_street_33 rfl ?_
      obtain ⟨v2, hc, h⟩ := h
      refine ex_callV (as := [.int (zsc x1 x2 x3)]) (st := []) (ci := 0) dX11_street_35 zmX0_countOn zl_RX11_175 ziX0_countOn zvX0_countOn (by decide) (zDy_o (ly_d47 hL)) rfl (Nat.le_of_ble_eq_true rfl) (Nat.le_of_ble_eq_true rfl) hc ?_
      refine ex_step (pc' := 40) (ls' := [some (.ref 0), some (.int x1), some (.int x2), some (.int x3), some (.int x4), some (.int (zsc x1 x2 x3)), some (.int v2)]) dX11_street_38 rfl ?_
      refine ex_step (pc' := 42) dX11_street_40 rfl ?_
      refine ex_step (pc' := 43) (st' := [.int (-1), .int x4]) dX11_street_42 rfl ?_
      refine ex_icmp (pc' := 49) dX11_street_43 (by decide) (fun c => ?_) (fun c => ?_)
      · have h := h.1 c
        refine ex_step (pc' := 51) dX11_street_49 rfl ?_
        refine ex_step (pc' := 53) dX11_street_51 rfl ?_
        refine ex_icmp (pc' := 78) dX11_street_53 (by decide) (fun c => ?_) (fun c => ?_)
        · have h := h.1 c
          refine ex_step (pc' := 79) (st' := [.int (-1)]) dX11_street_78 rfl ?_
          rw [h]; exact ex_ret (v := some (.int (-1))) ⟨dX11_street_79, _, rfl, rfl⟩
        · have h := h.2 c
          refine ex_step (pc' := 57) dX11_street_56 rfl ?_
          refine ex_getr dX11_street_57 wf_RX11_34 (ly_a0 hL) rfl (ly_r0_5 hL) ?_
          refine ex_step (pc' := 62) dX11_street_60 rfl ?_
          refine ex_step (pc' := 64) dX11_street_62 rfl ?_
          refine ex_step (pc' := 65) (st' := [.int 1, .int v2, .int (zsc x1 x2 x3), .ref 47]) dX11_street_64 rfl ?_
          refine ex_step (pc' := 66) dX11_street_65 rfl ?_
          refine ex_step (pc' := 68) dX11_street_66 rfl ?_
          refine ex_step (pc' := 69) dX11_street_68 rfl ?_
          obtain ⟨v3, hc, h⟩ := h
          refine ex_callV (as := [.int (zsc x1 x2 x3), .int ((v2 - 1) - x4)]) (st := []) (ci := 0) dX11_street_69 zmX0_fromTop zl_RX11_296 ziX0_fromTop zvX0_fromTop (by decide) (zDy_o (ly_d47 hL)) rfl (Nat.le_of_ble_eq_true rfl) (Nat.le_of_ble_eq_true rfl) hc ?_
          refine ex_callS (as := [.int v3]) (st := []) dX11_street_72 zmX11_ownerOf zl_RX11_299 zsX11_ownerOf rfl (Nat.le_of_ble_eq_true rfl) (Nat.le_of_ble_eq_true rfl) S_ownerOf ?_
          refine ex_step (pc' := 79) dX11_street_75 rfl ?_
          rw [h]; exact ex_ret (v := some (.int (zow v3))) ⟨dX11_street_79, _, rfl, rfl⟩
      · have h := h.2 (Classical.not_not.mp c)
        refine ex_step (pc' := 48) dX11_street_46 rfl ?_
        rw [h]; exact ex_ret (v := some (.int v2)) ⟨dX11_street_48, _, rfl, rfl⟩
    · have h := h.2 c
      refine ex_step (pc' := 20) (st' := [.int (-1)]) dX11_street_19 rfl ?_
      rw [h]; exact ex_ret (v := some (.int (-1))) ⟨dX11_street_20, _, rfl, rfl⟩
set_option maxHeartbeats 4000000 in
theorem BX11_dusk_0 {d : Nat} {Z : zZ} {I : zI} {J : zJ} {o : zO} {t u : Nat} (x1 : Int32) (x2 : Int32) (hL : zLY Z t u)  (h : ((x1 < 0 → o = (some (.int (-1)), Z, I, J)) ∧ (¬ x1 < 0 → ((5 ≤ x1 → o = (some (.int (-1)), Z, I, J)) ∧ (¬ 5 ≤ x1 → ((x2 < 0 → o = (some (.int (-1)), Z, I, J)) ∧ (¬ x2 < 0 → ((x2 ≤ 3 → (∃ (I1 : zI), zE (d + 5) kX1_pass 0 [some (.ref 413), some (.ref t), some (.ref 47), some (.ref 57), some (.int x1), none, none, none] [] Z I J (none, Z, I1, J) ∧ ((¬ x2 = 0 → ((¬ x2 = 1 → ((¬ x2 = 3 → (∃ (v2 : Int32), zE (d + 5) kX0_whoseThreadLies 0 [some (.ref 57), some (.ref t), some (.int 0), none, none] [] Z I1 J (some (.int v2), Z, I1, J) ∧ ((¬ x2 = 2 → o = (some (.int (v2 &&& (-1))), Z, I1, J)) ∧ (x2 = 2 → (∃ (v3 : Int32), zE (d + 5) kX0_lostBits 0 [some (.ref 57), some (.ref t), none, none] [] Z I1 J (some (.int v3), Z, I1, J) ∧ o = (some (.int (v2 &&& (v3 ^^^ (-1)))), Z, I1, J)))))) ∧ (x2 = 3 → (∃ (v4 : Int32), zE (d + 5) kX0_whoseThreadLies 0 [some (.ref 57), some (.ref t), some (.int 1), none, none] [] Z I1 J (some (.int v4), Z, I1, J) ∧ ((¬ x2 = 2 → o = (some (.int (v4 &&& (-1))), Z, I1, J)) ∧ (x2 = 2 → (∃ (v5 : Int32), zE (d + 5) kX0_lostBits 0 [some (.ref 57), some (.ref t), none, none] [] Z I1 J (some (.int v5), Z, I1, J) ∧ o = (some (.int (v4 &&& (v5 ^^^ (-1)))), Z, I1, J)))))))) ∧ (x2 = 1 → o = (some (.int (I1 413 1)), Z, I1, J)))) ∧ (x2 = 0 → o = (some (.int (I1 413 0)), Z, I1, J))))) ∧ (¬ x2 ≤ 3 → o = (some (.int (-1)), Z, I, J)))))))))) : zE (d + 6) kX11_dusk 0 [some (.ref 0), some (.int x1), some (.int x2)] [] Z I J o := by
  refine ex_step (pc' := 1) dX11_dusk_0 rfl ?_
  refine ex_if (pc' := 18) dX11_dusk_1 (by decide) (fun c => ?_) (fun c => ?_)
  · have h := h.1 c
    refine ex_step (pc' := 19) (st' := [.int (-1)]) dX11_dusk_18 rfl ?_
    rw [h]; exact ex_ret (v := some (.int (-1))) ⟨dX11_dusk_19, _, rfl, rfl⟩
  · have h := h.2 c
    refine ex_step (pc' := 5) dX11_dusk_4 rfl ?_
    refine ex_step (pc' := 6) (st' := [.int 5, .int x1]) dX11_dusk_5 rfl ?_
    refine ex_icmp (pc' := 18) dX11_dusk_6 (by decide) (fun c => ?_) (fun c => ?_)
    · have h := h.1 c
      refine ex_step (pc' := 19) (st' := [.int (-1)]) dX11_dusk_18 rfl ?_
      rw [h]; exact ex_ret (v := some (.int (-1))) ⟨dX11_dusk_19, _, rfl, rfl⟩
    · have h := h.2 c
      refine ex_step (pc' := 10) dX11_dusk_9 rfl ?_
      refine ex_if (pc' := 18) dX11_dusk_10 (by decide) (fun c => ?_) (fun c => ?_)
      · have h := h.1 c
        refine ex_step (pc' := 19) (st' := [.int (-1)]) dX11_dusk_18 rfl ?_
        rw [h]; exact ex_ret (v := some (.int (-1))) ⟨dX11_dusk_19, _, rfl, rfl⟩
      · have h := h.2 c
        refine ex_step (pc' := 14) dX11_dusk_13 rfl ?_
        refine ex_step (pc' := 15) (st' := [.int 3, .int x2]) dX11_dusk_14 rfl ?_
        refine ex_icmp (pc' := 20) dX11_dusk_15 (by decide) (fun c => ?_) (fun c => ?_)
        · have h := h.1 c
          refine ex_step (pc' := 21) dX11_dusk_20 rfl ?_
          refine ex_getr dX11_dusk_21 wf_RX11_72 (ly_a0 hL) rfl (ly_r0_11 hL) ?_
          refine ex_step (pc' := 25) dX11_dusk_24 rfl ?_
          refine ex_getr dX11_dusk_25 wf_RX11_27 (ly_a0 hL) rfl (ly_text hL) ?_
          refine ex_step (pc' := 29) dX11_dusk_28 rfl ?_
          refine ex_getr dX11_dusk_29 wf_RX11_34 (ly_a0 hL) rfl (ly_r0_5 hL) ?_
          refine ex_step (pc' := 33) dX11_dusk_32 rfl ?_
          refine ex_getr dX11_dusk_33 wf_RX11_38 (ly_a0 hL) rfl (ly_r0_6 hL) ?_
          refine ex_step (pc' := 37) dX11_dusk_36 rfl ?_
          obtain ⟨I1, hc, h⟩ := h
          refine ex_callV (as := [.ref t, .ref 47, .ref 57, .int x1]) (st := []) (ci := 1) dX11_dusk_37 zmX1_pass zl_RX11_302 ziX1_pass zvX1_pass (by decide) (ly_a413 hL) rfl (Nat.le_of_ble_eq_true rfl) (Nat.le_of_ble_eq_true rfl) hc ?_
          refine ex_step (pc' := 41) dX11_dusk_40 rfl ?_
          refine ex_if (pc' := 52) dX11_dusk_41 (by decide) (fun c => ?_) (fun c => ?_)
          · have h := h.1 c
            refine ex_step (pc' := 53) dX11_dusk_52 rfl ?_
            refine ex_step (pc' := 54) (st' := [.int 1, .int x2]) dX11_dusk_53 rfl ?_
            refine ex_icmp (pc' := 65) dX11_dusk_54 (by decide) (fun c => ?_) (fun c => ?_)
            · have h := h.1 c
              refine ex_step (pc' := 66) dX11_dusk_65 rfl ?_
              refine ex_getr dX11_dusk_66 wf_RX11_38 (ly_a0 hL) rfl (ly_r0_6 hL) ?_
              refine ex_step (pc' := 70) dX11_dusk_69 rfl ?_
              refine ex_getr dX11_dusk_70 wf_RX11_27 (ly_a0 hL) rfl (ly_text hL) ?_
              refine ex_step (pc' := 74) dX11_dusk_73 rfl ?_
              refine ex_step (pc' := 75) (st' := [.int 3, .int x2, .ref t, .ref 57]) dX11_dusk_74 rfl ?_
              refine ex_icmp (pc' := 82) dX11_dusk_75 (by decide) (fun c => ?_) (fun c => ?_)
              · have h := h.1 c
                refine ex_step (pc' := 83) (st' := [.int 0, .ref t, .ref 57]) dX11_dusk_82 rfl ?_
                obtain ⟨v2, hc, h⟩ := h
                refine ex_callV (as := [.ref t, .int 0]) (st := []) (ci := 0) dX11_dusk_83 zmX0_whoseThreadLies zl_RX11_312 ziX0_whoseThreadLies zvX0_whoseThreadLies (by decide) (zDy_o (ly_d57 hL)) rfl (Nat.le_of_ble_eq_true rfl) (Nat.le_of_ble_eq_true rfl) hc ?_
                refine ex_step (pc' := 87) dX11_dusk_86 rfl ?_
                refine ex_step (pc' := 88) (st' := [.int 2, .int x2, .int v2]) dX11_dusk_87 rfl ?_
                refine ex_icmp (pc' := 107) dX11_dusk_88 (by decide) (fun c => ?_) (fun c => ?_)
                · have h := h.1 c
                  refine ex_step (pc' := 108) (st' := [.int (-1), .int v2]) dX11_dusk_107 rfl ?_
                  refine ex_step (pc' := 109) dX11_dusk_108 rfl ?_
                  rw [h]; exact ex_ret (v := some (.int (v2 &&& (-1)))) ⟨dX11_dusk_109, _, rfl, rfl⟩
                · have h := h.2 (Classical.not_not.mp c)
                  refine ex_step (pc' := 92) dX11_dusk_91 rfl ?_
                  refine ex_getr dX11_dusk_92 wf_RX11_38 (ly_a0 hL) rfl (ly_r0_6 hL) ?_
                  refine ex_step (pc' := 96) dX11_dusk_95 rfl ?_
                  refine ex_getr dX11_dusk_96 wf_RX11_27 (ly_a0 hL) rfl (ly_text hL) ?_
                  obtain ⟨v3, hc, h⟩ := h
                  refine ex_callV (as := [.ref t]) (st := [.int v2]) (ci := 0) dX11_dusk_99 zmX0_lostBits zl_RX11_316 ziX0_lostBits zvX0_lostBits (by decide) (zDy_o (ly_d57 hL)) rfl (Nat.le_of_ble_eq_true rfl) (Nat.le_of_ble_eq_true rfl) hc ?_
                  refine ex_step (pc' := 103) (st' := [.int (-1), .int v3, .int v2]) dX11_dusk_102 rfl ?_
                  refine ex_step (pc' := 104) dX11_dusk_103 rfl ?_
                  refine ex_step (pc' := 108) dX11_dusk_104 rfl ?_
                  refine ex_step (pc' := 109) dX11_dusk_108 rfl ?_
                  rw [h]; exact ex_ret (v := some (.int (v2 &&& (v3 ^^^ (-1))))) ⟨dX11_dusk_109, _, rfl, rfl⟩
              · have h := h.2 (Classical.not_not.mp c)
                refine ex_step (pc' := 79) (st' := [.int 1, .ref t, .ref 57]) dX11_dusk_78 rfl ?_
                refine ex_step (pc' := 83) dX11_dusk_79 rfl ?_
                obtain ⟨v4, hc, h⟩ := h
                refine ex_callV (as := [.ref t, .int 1]) (st := []) (ci := 0) dX11_dusk_83 zmX0_whoseThreadLies zl_RX11_312 ziX0_whoseThreadLies zvX0_whoseThreadLies (by decide) (zDy_o (ly_d57 hL)) rfl (Nat.le_of_ble_eq_true rfl) (Nat.le_of_ble_eq_true rfl) hc ?_
                refine ex_step (pc' := 87) dX11_dusk_86 rfl ?_
                refine ex_step (pc' := 88) (st' := [.int 2, .int x2, .int v4]) dX11_dusk_87 rfl ?_
                refine ex_icmp (pc' := 107) dX11_dusk_88 (by decide) (fun c => ?_) (fun c => ?_)
                · have h := h.1 c
                  refine ex_step (pc' := 108) (st' := [.int (-1), .int v4]) dX11_dusk_107 rfl ?_
                  refine ex_step (pc' := 109) dX11_dusk_108 rfl ?_
                  rw [h]; exact ex_ret (v := some (.int (v4 &&& (-1)))) ⟨dX11_dusk_109, _, rfl, rfl⟩
                · have h := h.2 (Classical.not_not.mp c)
                  refine ex_step (pc' := 92) dX11_dusk_91 rfl ?_
                  refine ex_getr dX11_dusk_92 wf_RX11_38 (ly_a0 hL) rfl (ly_r0_6 hL) ?_
                  refine ex_step (pc' := 96) dX11_dusk_95 rfl ?_
                  refine ex_getr dX11_dusk_96 wf_RX11_27 (ly_a0 hL) rfl (ly_text hL) ?_
                  obtain ⟨v5, hc, h⟩ := h
                  refine ex_callV (as := [.ref t]) (st := [.int v4]) (ci := 0) dX11_dusk_99 zmX0_lostBits zl_RX11_316 ziX0_lostBits zvX0_lostBits (by decide) (zDy_o (ly_d57 hL)) rfl (Nat.le_of_ble_eq_true rfl) (Nat.le_of_ble_eq_true rfl) hc ?_
                  refine ex_step (pc' := 103) (st' := [.int (-1), .int v5, .int v4]) dX11_dusk_102 rfl ?_
                  refine ex_step (pc' := 104) dX11_dusk_103 rfl ?_
                  refine ex_step (pc' := 108) dX11_dusk_104 rfl ?_
                  refine ex_step (pc' := 109) dX11_dusk_108 rfl ?_
                  rw [h]; exact ex_ret (v := some (.int (v4 &&& (v5 ^^^ (-1))))) ⟨dX11_dusk_109, _, rfl, rfl⟩
            · have h := h.2 (Classical.not_not.mp c)
              refine ex_step (pc' := 58) dX11_dusk_57 rfl ?_
              refine ex_getr dX11_dusk_58 wf_RX11_72 (ly_a0 hL) rfl (ly_r0_11 hL) ?_
              refine ex_geti dX11_dusk_61 wf_RX11_309 (ly_a413 hL) rfl ?_
              rw [h]; exact ex_ret (v := some (.int (I1 413 1))) ⟨dX11_dusk_64, _, rfl, rfl⟩
          · have h := h.2 (Classical.not_not.mp c)
            refine ex_step (pc' := 45) dX11_dusk_44 rfl ?_
            refine ex_getr dX11_dusk_45 wf_RX11_72 (ly_a0 hL) rfl (ly_r0_11 hL) ?_
            refine ex_geti dX11_dusk_48 wf_RX11_306 (ly_a413 hL) rfl ?_
            rw [h]; exact ex_ret (v := some (.int (I1 413 0))) ⟨dX11_dusk_51, _, rfl, rfl⟩
        · have h := h.2 c
          refine ex_step (pc' := 19) (st' := [.int (-1)]) dX11_dusk_18 rfl ?_
          rw [h]; exact ex_ret (v := some (.int (-1))) ⟨dX11_dusk_19, _, rfl, rfl⟩
set_option maxHeartbeats 4000000 in
theorem BX11_bestDusk_0 {d : Nat} {Z : zZ} {I : zI} {J : zJ} {o : zO} {t u : Nat}  (hL : zLY Z t u)  (h : zE (d + 6) kX11_bestDusk 9 [some (.ref 0), some (.int 0), some (.int (-1)), some (.int 0), some (.int 0), none, none] [] Z I J o) : zE (d + 6) kX11_bestDusk 0 [some (.ref 0), none, none, none, none, none, none] [] Z I J o := by
  refine ex_step (pc' := 1) (st' := [.int 0]) dX11_bestDusk_0 rfl ?_
  refine ex_step (pc' := 2) (ls' := [some (.ref 0), some (.int 0), none, none, none, none, none]) dX11_bestDusk_1 rfl ?_
  refine ex_step (pc' := 3) (st' := [.int (-1)]) dX11_bestDusk_2 rfl ?_
  refine ex_step (pc' := 4) (ls' := [some (.ref 0), some (.int 0), some (.int (-1)), none, none, none, none]) dX11_bestDusk_3 rfl ?_
  refine ex_step (pc' := 5) (st' := [.int 0]) dX11_bestDusk_4 rfl ?_
  refine ex_step (pc' := 6) (ls' := [some (.ref 0), some (.int 0), some (.int (-1)), some (.int 0), none, none, none]) dX11_bestDusk_5 rfl ?_
  refine ex_step (pc' := 7) (st' := [.int 0]) dX11_bestDusk_6 rfl ?_
  refine ex_step (pc' := 9) (ls' := [some (.ref 0), some (.int 0), some (.int (-1)), some (.int 0), some (.int 0), none, none]) dX11_bestDusk_7 rfl ?_
  exact h
set_option maxHeartbeats 4000000 in
theorem BX11_bestDusk_9 {d : Nat} {Z : zZ} {I : zI} {J : zJ} {o : zO} {t u : Nat} (x1 : Int32) (x2 : Int32) (x3 : Int32) (x4 : Int32) (hL : zLY Z t u)  (h : ((5 ≤ x4 → o = (some (.int x1), Z, I, J)) ∧ (¬ 5 ≤ x4 → (∃ (I1 : zI), zE (d + 5) kX1_pass 0 [some (.ref 413), some (.ref t), some (.ref 47), some (.ref 57), some (.int x4), none, none, none] [] Z I J (none, Z, I1, J) ∧ (((I1 413 1) ≤ x2 → ((¬ (I1 413 1) = x2 → zE (d + 6) kX11_bestDusk 9 [some (.ref 0), some (.int x1), some (.int x2), some (.int x3), some (.int (x4 + 1)), none, none] [] Z I1 J o) ∧ ((I1 413 1) = x2 → ((x3 ≤ (I1 413 0) → zE (d + 6) kX11_bestDusk 9 [some (.ref 0), some (.int x1), some (.int x2), some (.int x3), some (.int (x4 + 1)), none, none] [] Z I1 J o) ∧ (¬ x3 ≤ (I1 413 0) → zE (d + 6) kX11_bestDusk 9 [some (.ref 0), some (.int x4), some (.int (I1 413 1)), some (.int (I1 413 0)), some (.int (x4 + 1)), none, none] [] Z I1 J o))))) ∧ (¬ (I1 413 1) ≤ x2 → ((¬ (I1 413 1) = x2 → zE (d + 6) kX11_bestDusk 9 [some (.ref 0), some (.int x4), some (.int (I1 413 1)), some (.int (I1 413 0)), some (.int (x4 + 1)), none, none] [] Z I1 J o) ∧ ((I1 413 1) = x2 → ((x3 ≤ (I1 413 0) → zE (d + 6) kX11_bestDusk 9 [some (.ref 0), some (.int x4), some (.int (I1 413 1)), some (.int (I1 413 0)), some (.int (x4 + 1)), none, none] [] Z I1 J o) ∧ (¬ x3 ≤ (I1 413 0) → zE (d + 6) kX11_bestDusk 9 [some (.ref 0), some (.int x4), some (.int (I1 413 1)), some (.int (I1 413 0)), some (.int (x4 + 1)), none, none] [] Z I1 J o)))))))))) : zE (d + 6) kX11_bestDusk 9 [some (.ref 0), some (.int x1), some (.int x2), some (.int x3), some (.int x4), none, none] [] Z I J o := by
  refine ex_step (pc' := 11) dX11_bestDusk_9 rfl ?_
  refine ex_step (pc' := 12) (st' := [.int 5, .int x4]) dX11_bestDusk_11 rfl ?_
  refine ex_icmp (pc' := 118) dX11_bestDusk_12 (by decide) (fun c => ?_) (fun c => ?_)
  · have h := h.1 c
    refine ex_step (pc' := 119) dX11_bestDusk_118 rfl ?_
    rw [h]; exact ex_ret (v := some (.int x1)) ⟨dX11_bestDusk_119, _, rfl, rfl⟩
  · have h := h.2 c
    refine ex_step (pc' := 16) dX11_bestDusk_15 rfl ?_
    refine ex_getr dX11_bestDusk_16 wf_RX11_72 (ly_a0 hL) rfl (ly_r0_11 hL) ?_
    refine ex_step (pc' := 20) dX11_bestDusk_19 rfl ?_
    refine ex_getr dX11_bestDusk_20 wf_RX11_27 (ly_a0 hL) rfl (ly_text hL) ?_
    refine ex_step (pc' := 24) dX11_bestDusk_23 rfl ?_
    refine ex_getr dX11_bestDusk_24 wf_RX11_34 (ly_a0 hL) rfl (ly_r0_5 hL) ?_
    refine ex_step (pc' := 28) dX11_bestDusk_27 rfl ?_
    refine ex_getr dX11_bestDusk_28 wf_RX11_38 (ly_a0 hL) rfl (ly_r0_6 hL) ?_
    refine ex_step (pc' := 33) dX11_bestDusk_31 rfl ?_
    obtain ⟨I1, hc, h⟩ := h
    refine ex_callV (as := [.ref t, .ref 47, .ref 57, .int x4]) (st := []) (ci := 1) dX11_bestDusk_33 zmX1_pass zl_RX11_302 ziX1_pass zvX1_pass (by decide) (ly_a413 hL) rfl (Nat.le_of_ble_eq_true rfl) (Nat.le_of_ble_eq_true rfl) hc ?_
    refine ex_step (pc' := 37) dX11_bestDusk_36 rfl ?_
    refine ex_getr dX11_bestDusk_37 wf_RX11_72 (ly_a0 hL) rfl (ly_r0_11 hL) ?_
    refine ex_geti dX11_bestDusk_40 wf_RX11_309 (ly_a413 hL) rfl ?_
    refine ex_step (pc' := 44) dX11_bestDusk_43 rfl ?_
    refine ex_icmp (pc' := 51) dX11_bestDusk_44 (by decide) (fun c => ?_) (fun c => ?_)
    · have h := h.1 c
      refine ex_step (pc' := 52) (st' := [.int 0]) dX11_bestDusk_51 rfl ?_
      refine ex_step (pc' := 54) (ls' := [some (.ref 0), some (.int x1), some (.int x2), some (.int x3), some (.int x4), some (.int 0), none]) dX11_bestDusk_52 rfl ?_
      refine ex_step (pc' := 55) dX11_bestDusk_54 rfl ?_
      refine ex_getr dX11_bestDusk_55 wf_RX11_72 (ly_a0 hL) rfl (ly_r0_11 hL) ?_
      refine ex_geti dX11_bestDusk_58 wf_RX11_309 (ly_a413 hL) rfl ?_
      refine ex_step (pc' := 62) dX11_bestDusk_61 rfl ?_
      refine ex_icmp (pc' := 80) dX11_bestDusk_62 (by decide) (fun c => ?_) (fun c => ?_)
      · have h := h.1 c
        refine ex_step (pc' := 81) (st' := [.int 0]) dX11_bestDusk_80 rfl ?_
        refine ex_step (pc' := 83) (ls' := [some (.ref 0), some (.int x1), some (.int x2), some (.int x3), some (.int x4), some (.int 0), some (.int 0)]) dX11_bestDusk_81 rfl ?_
        refine ex_step (pc' := 85) dX11_bestDusk_83 rfl ?_
        refine ex_if (pc' := 93) dX11_bestDusk_85 (by decide) (fun c => ?_) (fun c => ?_)
        · exact absurd (show ¬ (0 : Int32) = 0 from c) (by decide)
        · skip
          refine ex_step (pc' := 90) dX11_bestDusk_88 rfl ?_
          refine ex_if (pc' := 112) dX11_bestDusk_90 (by decide) (fun c => ?_) (fun c => ?_)
          · skip
            refine ex_step (pc' := 115) (ls' := [some (.ref 0), some (.int x1), some (.int x2), some (.int x3), some (.int (x4 + 1)), some (.int 0), some (.int 0)]) dX11_bestDusk_112 rfl ?_
            refine ex_step (pc' := 9) dX11_bestDusk_115 rfl ?_
            exact ex_less (ls' := [some (.ref 0), some (.int x1), some (.int x2), some (.int x3), some (.int (x4 + 1)), none, none]) ⟨rfl, ⟨rfl, ⟨rfl, ⟨rfl, ⟨rfl, trivial⟩⟩⟩⟩⟩ h
          · exact absurd (show (0 : Int32) = 0 from by decide) c
      · have h := h.2 (Classical.not_not.mp c)
        refine ex_step (pc' := 66) dX11_bestDusk_65 rfl ?_
        refine ex_getr dX11_bestDusk_66 wf_RX11_72 (ly_a0 hL) rfl (ly_r0_11 hL) ?_
        refine ex_geti dX11_bestDusk_69 wf_RX11_306 (ly_a413 hL) rfl ?_
        refine ex_step (pc' := 73) dX11_bestDusk_72 rfl ?_
        refine ex_icmp (pc' := 80) dX11_bestDusk_73 (by decide) (fun c => ?_) (fun c => ?_)
        · have h := h.1 c
          refine ex_step (pc' := 81) (st' := [.int 0]) dX11_bestDusk_80 rfl ?_
          refine ex_step (pc' := 83) (ls' := [some (.ref 0), some (.int x1), some (.int x2), some (.int x3), some (.int x4), some (.int 0), some (.int 0)]) dX11_bestDusk_81 rfl ?_
          refine ex_step (pc' := 85) dX11_bestDusk_83 rfl ?_
          refine ex_if (pc' := 93) dX11_bestDusk_85 (by decide) (fun c => ?_) (fun c => ?_)
          · exact absurd (show ¬ (0 : Int32) = 0 from c) (by decide)
          · skip
            refine ex_step (pc' := 90) dX11_bestDusk_88 rfl ?_
            refine ex_if (pc' := 112) dX11_bestDusk_90 (by decide) (fun c => ?_) (fun c => ?_)
            · skip
              refine ex_step (pc' := 115) (ls' := [some (.ref 0), some (.int x1), some (.int x2), some (.int x3), some (.int (x4 + 1)), some (.int 0), some (.int 0)]) dX11_bestDusk_112 rfl ?_
              refine ex_step (pc' := 9) dX11_bestDusk_115 rfl ?_
              exact ex_less (ls' := [some (.ref 0), some (.int x1), some (.int x2), some (.int x3), some (.int (x4 + 1)), none, none]) ⟨rfl, ⟨rfl, ⟨rfl, ⟨rfl, ⟨rfl, trivial⟩⟩⟩⟩⟩ h
            · exact absurd (show (0 : Int32) = 0 from by decide) c
        · have h := h.2 c
          refine ex_step (pc' := 77) (st' := [.int 1]) dX11_bestDusk_76 rfl ?_
          refine ex_step (pc' := 81) dX11_bestDusk_77 rfl ?_
          refine ex_step (pc' := 83) (ls' := [some (.ref 0), some (.int x1), some (.int x2), some (.int x3), some (.int x4), some (.int 0), some (.int 1)]) dX11_bestDusk_81 rfl ?_
          refine ex_step (pc' := 85) dX11_bestDusk_83 rfl ?_
          refine ex_if (pc' := 93) dX11_bestDusk_85 (by decide) (fun c => ?_) (fun c => ?_)
          · exact absurd (show ¬ (0 : Int32) = 0 from c) (by decide)
          · skip
            refine ex_step (pc' := 90) dX11_bestDusk_88 rfl ?_
            refine ex_if (pc' := 112) dX11_bestDusk_90 (by decide) (fun c => ?_) (fun c => ?_)
            · exact absurd (show (1 : Int32) = 0 from c) (by decide)
            · skip
              refine ex_step (pc' := 95) dX11_bestDusk_93 rfl ?_
              refine ex_step (pc' := 96) (ls' := [some (.ref 0), some (.int x4), some (.int x2), some (.int x3), some (.int x4), some (.int 0), some (.int 1)]) dX11_bestDusk_95 rfl ?_
              refine ex_step (pc' := 97) dX11_bestDusk_96 rfl ?_
              refine ex_getr dX11_bestDusk_97 wf_RX11_72 (ly_a0 hL) rfl (ly_r0_11 hL) ?_
              refine ex_geti dX11_bestDusk_100 wf_RX11_309 (ly_a413 hL) rfl ?_
              refine ex_step (pc' := 104) (ls' := [some (.ref 0), some (.int x4), some (.int (I1 413 1)), some (.int x3), some (.int x4), some (.int 0), some (.int 1)]) dX11_bestDusk_103 rfl ?_
              refine ex_step (pc' := 105) dX11_bestDusk_104 rfl ?_
              refine ex_getr dX11_bestDusk_105 wf_RX11_72 (ly_a0 hL) rfl (ly_r0_11 hL) ?_
              refine ex_geti dX11_bestDusk_108 wf_RX11_306 (ly_a413 hL) rfl ?_
              refine ex_step (pc' := 112) (ls' := [some (.ref 0), some (.int x4), some (.int (I1 413 1)), some (.int (I1 413 0)), some (.int x4), some (.int 0), some (.int 1)]) dX11_bestDusk_111 rfl ?_
              refine ex_step (pc' := 115) (ls' := [some (.ref 0), some (.int x4), some (.int (I1 413 1)), some (.int (I1 413 0)), some (.int (x4 + 1)), some (.int 0), some (.int 1)]) dX11_bestDusk_112 rfl ?_
              refine ex_step (pc' := 9) dX11_bestDusk_115 rfl ?_
              exact ex_less (ls' := [some (.ref 0), some (.int x4), some (.int (I1 413 1)), some (.int (I1 413 0)), some (.int (x4 + 1)), none, none]) ⟨rfl, ⟨rfl, ⟨rfl, ⟨rfl, ⟨rfl, trivial⟩⟩⟩⟩⟩ h
    · have h := h.2 c
      refine ex_step (pc' := 48) (st' := [.int 1]) dX11_bestDusk_47 rfl ?_
      refine ex_step (pc' := 52) dX11_bestDusk_48 rfl ?_
      refine ex_step (pc' := 54) (ls' := [some (.ref 0), some (.int x1), some (.int x2), some (.int x3), some (.int x4), some (.int 1), none]) dX11_bestDusk_52 rfl ?_
      refine ex_step (pc' := 55) dX11_bestDusk_54 rfl ?_
      refine ex_getr dX11_bestDusk_55 wf_RX11_72 (ly_a0 hL) rfl (ly_r0_11 hL) ?_
      refine ex_geti dX11_bestDusk_58 wf_RX11_309 (ly_a413 hL) rfl ?_
      refine ex_step (pc' := 62) dX11_bestDusk_61 rfl ?_
      refine ex_icmp (pc' := 80) dX11_bestDusk_62 (by decide) (fun c => ?_) (fun c => ?_)
      · have h := h.1 c
        refine ex_step (pc' := 81) (st' := [.int 0]) dX11_bestDusk_80 rfl ?_
        refine ex_step (pc' := 83) (ls' := [some (.ref 0), some (.int x1), some (.int x2), some (.int x3), some (.int x4), some (.int 1), some (.int 0)]) dX11_bestDusk_81 rfl ?_
        refine ex_step (pc' := 85) dX11_bestDusk_83 rfl ?_
        refine ex_if (pc' := 93) dX11_bestDusk_85 (by decide) (fun c => ?_) (fun c => ?_)
        · skip
          refine ex_step (pc' := 95) dX11_bestDusk_93 rfl ?_
          refine ex_step (pc' := 96) (ls' := [some (.ref 0), some (.int x4), some (.int x2), some (.int x3), some (.int x4), some (.int 1), some (.int 0)]) dX11_bestDusk_95 rfl ?_
          refine ex_step (pc' := 97) dX11_bestDusk_96 rfl ?_
          refine ex_getr dX11_bestDusk_97 wf_RX11_72 (ly_a0 hL) rfl (ly_r0_11 hL) ?_
          refine ex_geti dX11_bestDusk_100 wf_RX11_309 (ly_a413 hL) rfl ?_
          refine ex_step (pc' := 104) (ls' := [some (.ref 0), some (.int x4), some (.int (I1 413 1)), some (.int x3), some (.int x4), some (.int 1), some (.int 0)]) dX11_bestDusk_103 rfl ?_
          refine ex_step (pc' := 105) dX11_bestDusk_104 rfl ?_
          refine ex_getr dX11_bestDusk_105 wf_RX11_72 (ly_a0 hL) rfl (ly_r0_11 hL) ?_
          refine ex_geti dX11_bestDusk_108 wf_RX11_306 (ly_a413 hL) rfl ?_
          refine ex_step (pc' := 112) (ls' := [some (.ref 0), some (.int x4), some (.int (I1 413 1)), some (.int (I1 413 0)), some (.int x4), some (.int 1), some (.int 0)]) dX11_bestDusk_111 rfl ?_
          refine ex_step (pc' := 115) (ls' := [some (.ref 0), some (.int x4), some (.int (I1 413 1)), some (.int (I1 413 0)), some (.int (x4 + 1)), some (.int 1), some (.int 0)]) dX11_bestDusk_112 rfl ?_
          refine ex_step (pc' := 9) dX11_bestDusk_115 rfl ?_
          exact ex_less (ls' := [some (.ref 0), some (.int x4), some (.int (I1 413 1)), some (.int (I1 413 0)), some (.int (x4 + 1)), none, none]) ⟨rfl, ⟨rfl, ⟨rfl, ⟨rfl, ⟨rfl, trivial⟩⟩⟩⟩⟩ h
        · exact absurd (show ¬ (1 : Int32) = 0 from by decide) c
      · have h := h.2 (Classical.not_not.mp c)
        refine ex_step (pc' := 66) dX11_bestDusk_65 rfl ?_
        refine ex_getr dX11_bestDusk_66 wf_RX11_72 (ly_a0 hL) rfl (ly_r0_11 hL) ?_
        refine ex_geti dX11_bestDusk_69 wf_RX11_306 (ly_a413 hL) rfl ?_
        refine ex_step (pc' := 73) dX11_bestDusk_72 rfl ?_
        refine ex_icmp (pc' := 80) dX11_bestDusk_73 (by decide) (fun c => ?_) (fun c => ?_)
        · have h := h.1 c
          refine ex_step (pc' := 81) (st' := [.int 0]) dX11_bestDusk_80 rfl ?_
          refine ex_step (pc' := 83) (ls' := [some (.ref 0), some (.int x1), some (.int x2), some (.int x3), some (.int x4), some (.int 1), some (.int 0)]) dX11_bestDusk_81 rfl ?_
          refine ex_step (pc' := 85) dX11_bestDusk_83 rfl ?_
          refine ex_if (pc' := 93) dX11_bestDusk_85 (by decide) (fun c => ?_) (fun c => ?_)
          · skip
            refine ex_step (pc' := 95) dX11_bestDusk_93 rfl ?_
            refine ex_step (pc' := 96) (ls' := [some (.ref 0), some (.int x4), some (.int x2), some (.int x3), some (.int x4), some (.int 1), some (.int 0)]) dX11_bestDusk_95 rfl ?_
            refine ex_step (pc' := 97) dX11_bestDusk_96 rfl ?_
            refine ex_getr dX11_bestDusk_97 wf_RX11_72 (ly_a0 hL) rfl (ly_r0_11 hL) ?_
            refine ex_geti dX11_bestDusk_100 wf_RX11_309 (ly_a413 hL) rfl ?_
            refine ex_step (pc' := 104) (ls' := [some (.ref 0), some (.int x4), some (.int (I1 413 1)), some (.int x3), some (.int x4), some (.int 1), some (.int 0)]) dX11_bestDusk_103 rfl ?_
            refine ex_step (pc' := 105) dX11_bestDusk_104 rfl ?_
            refine ex_getr dX11_bestDusk_105 wf_RX11_72 (ly_a0 hL) rfl (ly_r0_11 hL) ?_
            refine ex_geti dX11_bestDusk_108 wf_RX11_306 (ly_a413 hL) rfl ?_
            refine ex_step (pc' := 112) (ls' := [some (.ref 0), some (.int x4), some (.int (I1 413 1)), some (.int (I1 413 0)), some (.int x4), some (.int 1), some (.int 0)]) dX11_bestDusk_111 rfl ?_
            refine ex_step (pc' := 115) (ls' := [some (.ref 0), some (.int x4), some (.int (I1 413 1)), some (.int (I1 413 0)), some (.int (x4 + 1)), some (.int 1), some (.int 0)]) dX11_bestDusk_112 rfl ?_
            refine ex_step (pc' := 9) dX11_bestDusk_115 rfl ?_
            exact ex_less (ls' := [some (.ref 0), some (.int x4), some (.int (I1 413 1)), some (.int (I1 413 0)), some (.int (x4 + 1)), none, none]) ⟨rfl, ⟨rfl, ⟨rfl, ⟨rfl, ⟨rfl, trivial⟩⟩⟩⟩⟩ h
          · exact absurd (show ¬ (1 : Int32) = 0 from by decide) c
        · have h := h.2 c
          refine ex_step (pc' := 77) (st' := [.int 1]) dX11_bestDusk_76 rfl ?_
          refine ex_step (pc' := 81) dX11_bestDusk_77 rfl ?_
          refine ex_step (pc' := 83) (ls' := [some (.ref 0), some (.int x1), some (.int x2), some (.int x3), some (.int x4), some (.int 1), some (.int 1)]) dX11_bestDusk_81 rfl ?_
          refine ex_step (pc' := 85) dX11_bestDusk_83 rfl ?_
          refine ex_if (pc' := 93) dX11_bestDusk_85 (by decide) (fun c => ?_) (fun c => ?_)
          · skip
            refine ex_step (pc' := 95) dX11_bestDusk_93 rfl ?_
            refine ex_step (pc' := 96) (ls' := [some (.ref 0), some (.int x4), some (.int x2), some (.int x3), some (.int x4), some (.int 1), some (.int 1)]) dX11_bestDusk_95 rfl ?_
            refine ex_step (pc' := 97) dX11_bestDusk_96 rfl ?_
            refine ex_getr dX11_bestDusk_97 wf_RX11_72 (ly_a0 hL) rfl (ly_r0_11 hL) ?_
            refine ex_geti dX11_bestDusk_100 wf_RX11_309 (ly_a413 hL) rfl ?_
            refine ex_step (pc' := 104) (ls' := [some (.ref 0), some (.int x4), some (.int (I1 413 1)), some (.int x3), some (.int x4), some (.int 1), some (.int 1)]) dX11_bestDusk_103 rfl ?_
            refine ex_step (pc' := 105) dX11_bestDusk_104 rfl ?_
            refine ex_getr dX11_bestDusk_105 wf_RX11_72 (ly_a0 hL) rfl (ly_r0_11 hL) ?_
            refine ex_geti dX11_bestDusk_108 wf_RX11_306 (ly_a413 hL) rfl ?_
            refine ex_step (pc' := 112) (ls' := [some (.ref 0), some (.int x4), some (.int (I1 413 1)), some (.int (I1 413 0)), some (.int x4), some (.int 1), some (.int 1)]) dX11_bestDusk_111 rfl ?_
            refine ex_step (pc' := 115) (ls' := [some (.ref 0), some (.int x4), some (.int (I1 413 1)), some (.int (I1 413 0)), some (.int (x4 + 1)), some (.int 1), some (.int 1)]) dX11_bestDusk_112 rfl ?_
            refine ex_step (pc' := 9) dX11_bestDusk_115 rfl ?_
            exact ex_less (ls' := [some (.ref 0), some (.int x4), some (.int (I1 413 1)), some (.int (I1 413 0)), some (.int (x4 + 1)), none, none]) ⟨rfl, ⟨rfl, ⟨rfl, ⟨rfl, ⟨rfl, trivial⟩⟩⟩⟩⟩ h
          · exact absurd (show ¬ (1 : Int32) = 0 from by decide) c
set_option maxHeartbeats 4000000 in
theorem BX11_shows_0 {d : Nat} {Z : zZ} {I : zI} {J : zJ} {o : zO} {t u : Nat} (x1 : Int32) (x2 : Int32) (x3 : Int32) (hL : zLY Z t u)  (h : (∃ (v1 : Int32), zE (d + 1) kX6_hasStreet 0 [some (.ref t), some (.int x1), some (.int x2), some (.int x3)] [] Z I J (some (.int v1), Z, I, J) ∧ ((¬ v1 = 0 → (∀ y2 : Int32, y2 = (zat I (47 + 9) 288 (zsc x1 x2 x3)) → ((¬ y2 = 0 → o = (some (.int (zat I (t + 10) 7 (zow y2))), Z, I, J)) ∧ (y2 = 0 → o = (some (.int (-2)), Z, I, J))))) ∧ (v1 = 0 → o = (some (.int (-1)), Z, I, J))))) : zE (d + 2) kX11_shows 0 [some (.ref 0), some (.int x1), some (.int x2), some (.int x3), none] [] Z I J o := by
  refine ex_step (pc' := 1) dX11_shows_0 rfl ?_
  refine ex_getr dX11_shows_1 wf_RX11_27 (ly_a0 hL) rfl (ly_text hL) ?_
  refine ex_step (pc' := 5) dX11_shows_4 rfl ?_
  refine ex_step (pc' := 6) dX11_shows_5 rfl ?_
  refine ex_step (pc' := 7) dX11_shows_6 rfl ?_
  obtain ⟨v1, hc, h⟩ := h
  refine ex_callV (as := [.int x1, .int x2, .int x3]) (st := []) (ci := 6) dX11_shows_7 zmX6_hasStreet zl_RX11_289 ziX6_hasStreet zvX6_hasStreet (by decide) (zTx_o (ly_tx hL)) rfl (Nat.le_of_ble_eq_true rfl) (Nat.le_of_ble_eq_true rfl) hc ?_
  refine ex_if (pc' := 15) dX11_shows_10 (by decide) (fun c => ?_) (fun c => ?_)
  · have h := h.1 c
    refine ex_step (pc' := 16) dX11_shows_15 rfl ?_
    refine ex_getr dX11_shows_16 wf_RX11_34 (ly_a0 hL) rfl (ly_r0_5 hL) ?_
    refine ex_getr dX11_shows_19 wf_RX11_320 (zDy_o (ly_d47 hL)) rfl (zDy_r9 (ly_d47 hL)) ?_
    refine ex_step (pc' := 23) dX11_shows_22 rfl ?_
    refine ex_step (pc' := 24) dX11_shows_23 rfl ?_
    refine ex_step (pc' := 25) dX11_shows_24 rfl ?_
    refine ex_callS (as := [.int x1, .int x2, .int x3]) (st := [.ref (47 + 9)]) dX11_shows_25 zmX11_streetOf zl_RX11_293 zsX11_streetOf rfl (Nat.le_of_ble_eq_true rfl) (Nat.le_of_ble_eq_true rfl) S_streetOf ?_
    refine ex_callS (as := [.ref (47 + 9), .int (zsc x1 x2 x3)]) (st := []) dX11_shows_28 zmX11_at zl_RX11_125 zsX11_at rfl (Nat.le_of_ble_eq_true rfl) (Nat.le_of_ble_eq_true rfl) (S_at' (by decide) (zDy_a9 (ly_d47 hL))) ?_
    refine ex_topi (fun y2 ey2 => ?_)
    have h := h y2 ey2
    refine ex_step (pc' := 33) (ls' := [some (.ref 0), some (.int x1), some (.int x2), some (.int x3), some (.int y2)]) dX11_shows_31 rfl ?_
    refine ex_step (pc' := 35) dX11_shows_33 rfl ?_
    refine ex_if (pc' := 43) dX11_shows_35 (by decide) (fun c => ?_) (fun c => ?_)
    · have h := h.1 c
      refine ex_step (pc' := 44) dX11_shows_43 rfl ?_
      refine ex_getr dX11_shows_44 wf_RX11_27 (ly_a0 hL) rfl (ly_text hL) ?_
      refine ex_getr dX11_shows_47 wf_RX11_159 (zTx_o (ly_tx hL)) rfl (zTx_r11 (ly_tx hL)) ?_
      refine ex_step (pc' := 52) dX11_shows_50 rfl ?_
      refine ex_callS (as := [.int y2]) (st := [.ref (t + 10)]) dX11_shows_52 zmX11_ownerOf zl_RX11_299 zsX11_ownerOf rfl (Nat.le_of_ble_eq_true rfl) (Nat.le_of_ble_eq_true rfl) S_ownerOf ?_
      refine ex_callS (as := [.ref (t + 10), .int (zow y2)]) (st := []) dX11_shows_55 zmX11_at zl_RX11_125 zsX11_at rfl (Nat.le_of_ble_eq_true rfl) (Nat.le_of_ble_eq_true rfl) (S_at' (by decide) (zTx_a10 (ly_tx hL))) ?_
      rw [h]; exact ex_ret (v := some (.int (zat I (t + 10) 7 (zow y2)))) ⟨dX11_shows_58, _, rfl, rfl⟩
    · have h := h.2 (Classical.not_not.mp c)
      refine ex_step (pc' := 40) (st' := [.int (-2)]) dX11_shows_38 rfl ?_
      refine ex_step (pc' := 58) dX11_shows_40 rfl ?_
      rw [h]; exact ex_ret (v := some (.int (-2))) ⟨dX11_shows_58, _, rfl, rfl⟩
  · have h := h.2 (Classical.not_not.mp c)
    refine ex_step (pc' := 14) (st' := [.int (-1)]) dX11_shows_13 rfl ?_
    rw [h]; exact ex_ret (v := some (.int (-1))) ⟨dX11_shows_14, _, rfl, rfl⟩
set_option maxHeartbeats 4000000 in
theorem BX11_shown_0 {d : Nat} {Z : zZ} {I : zI} {J : zJ} {o : zO} {t u : Nat} (x1 : Int32) (hL : zLY Z t u)  (h : ((x1 < 0 → o = (some (.int (-1)), Z, I, J)) ∧ (¬ x1 < 0 → ((x1 ≤ 9 → zE (d + 2) kX11_shown 16 [some (.ref 0), some (.int x1), some (.int 0), some (.int 0)] [] Z I J o) ∧ (¬ x1 ≤ 9 → o = (some (.int (-1)), Z, I, J)))))) : zE (d + 2) kX11_shown 0 [some (.ref 0), some (.int x1), none, none] [] Z I J o := by
  refine ex_step (pc' := 1) dX11_shown_0 rfl ?_
  refine ex_if (pc' := 10) dX11_shown_1 (by decide) (fun c => ?_) (fun c => ?_)
  · have h := h.1 c
    refine ex_step (pc' := 11) (st' := [.int (-1)]) dX11_shown_10 rfl ?_
    rw [h]; exact ex_ret (v := some (.int (-1))) ⟨dX11_shown_11, _, rfl, rfl⟩
  · have h := h.2 c
    refine ex_step (pc' := 5) dX11_shown_4 rfl ?_
    refine ex_step (pc' := 7) (st' := [.int 9, .int x1]) dX11_shown_5 rfl ?_
    refine ex_icmp (pc' := 12) dX11_shown_7 (by decide) (fun c => ?_) (fun c => ?_)
    · have h := h.1 c
      refine ex_step (pc' := 13) (st' := [.int 0]) dX11_shown_12 rfl ?_
      refine ex_step (pc' := 14) (ls' := [some (.ref 0), some (.int x1), some (.int 0), none]) dX11_shown_13 rfl ?_
      refine ex_step (pc' := 15) (st' := [.int 0]) dX11_shown_14 rfl ?_
      refine ex_step (pc' := 16) (ls' := [some (.ref 0), some (.int x1), some (.int 0), some (.int 0)]) dX11_shown_15 rfl ?_
      exact h
    · have h := h.2 c
      refine ex_step (pc' := 11) (st' := [.int (-1)]) dX11_shown_10 rfl ?_
      rw [h]; exact ex_ret (v := some (.int (-1))) ⟨dX11_shown_11, _, rfl, rfl⟩
set_option maxHeartbeats 4000000 in
theorem BX11_shown_16 {d : Nat} {Z : zZ} {I : zI} {J : zJ} {o : zO} {t u : Nat} (x1 : Int32) (x2 : Int32) (x3 : Int32) (hL : zLY Z t u)  (h : (((I t 2) ≤ x3 → o = (some (.int x2), Z, I, J)) ∧ (¬ (I t 2) ≤ x3 → ((¬ (zat I (t + 10) 7 x3) = x1 → zE (d + 2) kX11_shown 16 [some (.ref 0), some (.int x1), some (.int x2), some (.int (x3 + 1))] [] Z I J o) ∧ ((zat I (t + 10) 7 x3) = x1 → (∃ (v1 : Int32), zE (d + 1) kX0_countTops 0 [some (.ref 47), some (.int x3), none, none, none] [] Z I J (some (.int v1), Z, I, J) ∧ zE (d + 2) kX11_shown 16 [some (.ref 0), some (.int x1), some (.int (x2 + v1)), some (.int (x3 + 1))] [] Z I J o)))))) : zE (d + 2) kX11_shown 16 [some (.ref 0), some (.int x1), some (.int x2), some (.int x3)] [] Z I J o := by
  refine ex_step (pc' := 17) dX11_shown_16 rfl ?_
  refine ex_step (pc' := 18) dX11_shown_17 rfl ?_
  refine ex_getr dX11_shown_18 wf_RX11_27 (ly_a0 hL) rfl (ly_text hL) ?_
  refine ex_geti dX11_shown_21 wf_RX11_283 (zTx_o (ly_tx hL)) rfl ?_
  refine ex_icmp (pc' := 59) dX11_shown_24 (by decide) (fun c => ?_) (fun c => ?_)
  · have h := h.1 c
    refine ex_step (pc' := 60) dX11_shown_59 rfl ?_
    rw [h]; exact ex_ret (v := some (.int x2)) ⟨dX11_shown_60, _, rfl, rfl⟩
  · have h := h.2 c
    refine ex_step (pc' := 28) dX11_shown_27 rfl ?_
    refine ex_getr dX11_shown_28 wf_RX11_27 (ly_a0 hL) rfl (ly_text hL) ?_
    refine ex_getr dX11_shown_31 wf_RX11_159 (zTx_o (ly_tx hL)) rfl (zTx_r11 (ly_tx hL)) ?_
    refine ex_step (pc' := 35) dX11_shown_34 rfl ?_
    refine ex_callS (as := [.ref (t + 10), .int x3]) (st := []) dX11_shown_35 zmX11_at zl_RX11_125 zsX11_at rfl (Nat.le_of_ble_eq_true rfl) (Nat.le_of_ble_eq_true rfl) (S_at' (by decide) (zTx_a10 (ly_tx hL))) ?_
    refine ex_step (pc' := 39) dX11_shown_38 rfl ?_
    refine ex_icmp (pc' := 53) dX11_shown_39 (by decide) (fun c => ?_) (fun c => ?_)
    · have h := h.1 c
      refine ex_step (pc' := 56) (ls' := [some (.ref 0), some (.int x1), some (.int x2), some (.int (x3 + 1))]) dX11_shown_53 rfl ?_
      refine ex_step (pc' := 16) dX11_shown_56 rfl ?_
      exact h
    · have h := h.2 (Classical.not_not.mp c)
      refine ex_step (pc' := 43) dX11_shown_42 rfl ?_
      refine ex_step (pc' := 44) dX11_shown_43 rfl ?_
      refine ex_getr dX11_shown_44 wf_RX11_34 (ly_a0 hL) rfl (ly_r0_5 hL) ?_
      refine ex_step (pc' := 48) dX11_shown_47 rfl ?_
      obtain ⟨v1, hc, h⟩ := h
      refine ex_callV (as := [.int x3]) (st := [.int x2]) (ci := 0) dX11_shown_48 zmX0_countTops zl_RX11_323 ziX0_countTops zvX0_countTops (by decide) (zDy_o (ly_d47 hL)) rfl (Nat.le_of_ble_eq_true rfl) (Nat.le_of_ble_eq_true rfl) hc ?_
      refine ex_step (pc' := 52) dX11_shown_51 rfl ?_
      refine ex_step (pc' := 53) (ls' := [some (.ref 0), some (.int x1), some (.int (x2 + v1)), some (.int x3)]) dX11_shown_52 rfl ?_
      refine ex_step (pc' := 56) (ls' := [some (.ref 0), some (.int x1), some (.int (x2 + v1)), some (.int (x3 + 1))]) dX11_shown_53 rfl ?_
      refine ex_step (pc' := 16) dX11_shown_56 rfl ?_
      exact h
set_option maxHeartbeats 4000000 in
theorem BX11_uppermost_0 {d : Nat} {Z : zZ} {I : zI} {J : zJ} {o : zO} {t u : Nat} (x1 : Int32) (hL : zLY Z t u)  (h : (∃ (v1 : Int32), zE (d + 1) kX11_isMan 0 [some (.ref 0), some (.int x1)] [] Z I J (some (.int v1), Z, I, J) ∧ ((v1 = 0 → o = (some (.int (-1)), Z, I, J)) ∧ (¬ v1 = 0 → (∃ (v2 : Int32), zE (d + 1) kX0_countTops 0 [some (.ref 47), some (.int x1), none, none, none] [] Z I J (some (.int v2), Z, I, J) ∧ o = (some (.int v2), Z, I, J)))))) : zE (d + 2) kX11_uppermost 0 [some (.ref 0), some (.int x1)] [] Z I J o := by
  refine ex_step (pc' := 1) dX11_uppermost_0 rfl ?_
  refine ex_step (pc' := 2) dX11_uppermost_1 rfl ?_
  obtain ⟨v1, hc, h⟩ := h
  refine ex_callV (as := [.int x1]) (st := []) (ci := 11) dX11_uppermost_2 zmX11_isMan zl_RX11_118 ziX11_isMan zvX11_isMan (by decide) (ly_a0 hL) rfl (Nat.le_of_ble_eq_true rfl) (Nat.le_of_ble_eq_true rfl) hc ?_
  refine ex_if (pc' := 19) dX11_uppermost_5 (by decide) (fun c => ?_) (fun c => ?_)
  · have h := h.1 c
    refine ex_step (pc' := 20) (st' := [.int (-1)]) dX11_uppermost_19 rfl ?_
    rw [h]; exact ex_ret (v := some (.int (-1))) ⟨dX11_uppermost_20, _, rfl, rfl⟩
  · have h := h.2 c
    refine ex_step (pc' := 9) dX11_uppermost_8 rfl ?_
    refine ex_getr dX11_uppermost_9 wf_RX11_34 (ly_a0 hL) rfl (ly_r0_5 hL) ?_
    refine ex_step (pc' := 13) dX11_uppermost_12 rfl ?_
    obtain ⟨v2, hc, h⟩ := h
    refine ex_callV (as := [.int x1]) (st := []) (ci := 0) dX11_uppermost_13 zmX0_countTops zl_RX11_323 ziX0_countTops zvX0_countTops (by decide) (zDy_o (ly_d47 hL)) rfl (Nat.le_of_ble_eq_true rfl) (Nat.le_of_ble_eq_true rfl) hc ?_
    refine ex_step (pc' := 20) dX11_uppermost_16 rfl ?_
    rw [h]; exact ex_ret (v := some (.int v2)) ⟨dX11_uppermost_20, _, rfl, rfl⟩
set_option maxHeartbeats 4000000 in
theorem BX11_knows_0 {d : Nat} {Z : zZ} {I : zI} {J : zJ} {o : zO} {t u : Nat} (x1 : Int32) (hL : zLY Z t u)  (h : (∃ (v1 : Int32), zE (d + 2) kX11_isMan 0 [some (.ref 0), some (.int x1)] [] Z I J (some (.int v1), Z, I, J) ∧ ((¬ v1 = 0 → (∃ (I2 : zI), zE (d + 2) kX7_look 0 [some (.ref 401), some (.ref t), some (.ref 47), none] [] Z I J (none, Z, I2, J) ∧ o = (some (.int (zat I2 403 7 x1)), Z, I2, J))) ∧ (v1 = 0 → o = (some (.int (-1)), Z, I, J))))) : zE (d + 3) kX11_knows 0 [some (.ref 0), some (.int x1)] [] Z I J o := by
  refine ex_step (pc' := 1) dX11_knows_0 rfl ?_
  refine ex_step (pc' := 2) dX11_knows_1 rfl ?_
  obtain ⟨v1, hc, h⟩ := h
  refine ex_callV (as := [.int x1]) (st := []) (ci := 11) dX11_knows_2 zmX11_isMan zl_RX11_118 ziX11_isMan zvX11_isMan (by decide) (ly_a0 hL) rfl (Nat.le_of_ble_eq_true rfl) (Nat.le_of_ble_eq_true rfl) hc ?_
  refine ex_if (pc' := 10) dX11_knows_5 (by decide) (fun c => ?_) (fun c => ?_)
  · have h := h.1 c
    refine ex_step (pc' := 11) dX11_knows_10 rfl ?_
    refine ex_getr dX11_knows_11 wf_RX11_51 (ly_a0 hL) rfl (ly_r0_8 hL) ?_
    refine ex_step (pc' := 15) dX11_knows_14 rfl ?_
    refine ex_getr dX11_knows_15 wf_RX11_27 (ly_a0 hL) rfl (ly_text hL) ?_
    refine ex_step (pc' := 19) dX11_knows_18 rfl ?_
    refine ex_getr dX11_knows_19 wf_RX11_34 (ly_a0 hL) rfl (ly_r0_5 hL) ?_
    obtain ⟨I2, hc, h⟩ := h
    refine ex_callV (as := [.ref t, .ref 47]) (st := []) (ci := 7) dX11_knows_22 zmX7_look zl_RX11_216 ziX7_look zvX7_look (by decide) (ly_a401 hL) rfl (Nat.le_of_ble_eq_true rfl) (Nat.le_of_ble_eq_true rfl) hc ?_
    refine ex_step (pc' := 26) dX11_knows_25 rfl ?_
    refine ex_getr dX11_knows_26 wf_RX11_51 (ly_a0 hL) rfl (ly_r0_8 hL) ?_
    refine ex_getr dX11_knows_29 wf_RX11_326 (ly_a401 hL) rfl (ly_r401_1 hL) ?_
    refine ex_step (pc' := 33) dX11_knows_32 rfl ?_
    refine ex_callS (as := [.ref 403, .int x1]) (st := []) dX11_knows_33 zmX11_at zl_RX11_125 zsX11_at rfl (Nat.le_of_ble_eq_true rfl) (Nat.le_of_ble_eq_true rfl) (S_at' (by decide) (ly_a403 hL)) ?_
    rw [h]; exact ex_ret (v := some (.int (zat I2 403 7 x1))) ⟨dX11_knows_36, _, rfl, rfl⟩
  · have h := h.2 (Classical.not_not.mp c)
    refine ex_step (pc' := 9) (st' := [.int (-1)]) dX11_knows_8 rfl ?_
    rw [h]; exact ex_ret (v := some (.int (-1))) ⟨dX11_knows_9, _, rfl, rfl⟩
set_option maxHeartbeats 4000000 in
theorem BX11_links_0 {d : Nat} {Z : zZ} {I : zI} {J : zJ} {o : zO} {t u : Nat} (x1 : Int32) (x2 : Int32) (hL : zLY Z t u)  (h : (∃ (v1 : Int32), zE (d + 2) kX11_areTwo 0 [some (.ref 0), some (.int x1), some (.int x2)] [] Z I J (some (.int v1), Z, I, J) ∧ ((¬ v1 = 0 → (∃ (I2 : zI), zE (d + 2) kX7_look 0 [some (.ref 401), some (.ref t), some (.ref 47), none] [] Z I J (none, Z, I2, J) ∧ (∃ (v3 : Int32), zE (d + 2) kX7_countLinks 0 [some (.ref 401), some (.int x1), some (.int x2), none, none] [] Z I2 J (some (.int v3), Z, I2, J) ∧ o = (some (.int v3), Z, I2, J)))) ∧ (v1 = 0 → o = (some (.int (-1)), Z, I, J))))) : zE (d + 3) kX11_links 0 [some (.ref 0), some (.int x1), some (.int x2)] [] Z I J o := by
  refine ex_step (pc' := 1) dX11_links_0 rfl ?_
  refine ex_step (pc' := 2) dX11_links_1 rfl ?_
  refine ex_step (pc' := 3) dX11_links_2 rfl ?_
  obtain ⟨v1, hc, h⟩ := h
  refine ex_callV (as := [.int x1, .int x2]) (st := []) (ci := 11) dX11_links_3 zmX11_areTwo zl_RX11_209 ziX11_areTwo zvX11_areTwo (by decide) (ly_a0 hL) rfl (Nat.le_of_ble_eq_true rfl) (Nat.le_of_ble_eq_true rfl) hc ?_
  refine ex_if (pc' := 11) dX11_links_6 (by decide) (fun c => ?_) (fun c => ?_)
  · have h := h.1 c
    refine ex_step (pc' := 12) dX11_links_11 rfl ?_
    refine ex_getr dX11_links_12 wf_RX11_51 (ly_a0 hL) rfl (ly_r0_8 hL) ?_
    refine ex_step (pc' := 16) dX11_links_15 rfl ?_
    refine ex_getr dX11_links_16 wf_RX11_27 (ly_a0 hL) rfl (ly_text hL) ?_
    refine ex_step (pc' := 20) dX11_links_19 rfl ?_
    refine ex_getr dX11_links_20 wf_RX11_34 (ly_a0 hL) rfl (ly_r0_5 hL) ?_
    obtain ⟨I2, hc, h⟩ := h
    refine ex_callV (as := [.ref t, .ref 47]) (st := []) (ci := 7) dX11_links_23 zmX7_look zl_RX11_216 ziX7_look zvX7_look (by decide) (ly_a401 hL) rfl (Nat.le_of_ble_eq_true rfl) (Nat.le_of_ble_eq_true rfl) hc ?_
    refine ex_step (pc' := 27) dX11_links_26 rfl ?_
    refine ex_getr dX11_links_27 wf_RX11_51 (ly_a0 hL) rfl (ly_r0_8 hL) ?_
    refine ex_step (pc' := 31) dX11_links_30 rfl ?_
    refine ex_step (pc' := 32) dX11_links_31 rfl ?_
    obtain ⟨v3, hc, h⟩ := h
    refine ex_callV (as := [.int x1, .int x2]) (st := []) (ci := 7) dX11_links_32 zmX7_countLinks zl_RX11_329 ziX7_countLinks zvX7_countLinks (by decide) (ly_a401 hL) rfl (Nat.le_of_ble_eq_true rfl) (Nat.le_of_ble_eq_true rfl) hc ?_
    rw [h]; exact ex_ret (v := some (.int v3)) ⟨dX11_links_35, _, rfl, rfl⟩
  · have h := h.2 (Classical.not_not.mp c)
    refine ex_step (pc' := 10) (st' := [.int (-1)]) dX11_links_9 rfl ?_
    rw [h]; exact ex_ret (v := some (.int (-1))) ⟨dX11_links_10, _, rfl, rfl⟩
set_option maxHeartbeats 4000000 in
theorem BX11_rounds_0 {d : Nat} {Z : zZ} {I : zI} {J : zJ} {o : zO} {t u : Nat}  (hL : zLY Z t u)  (h : (∃ (I1 : zI), zE (d + 2) kX7_look 0 [some (.ref 401), some (.ref t), some (.ref 47), none] [] Z I J (none, Z, I1, J) ∧ (∃ (v2 : Int32), zE (d + 2) kX7_countRounds 0 [some (.ref 401), none, none, none, none] [] Z I1 J (some (.int v2), Z, I1, J) ∧ o = (some (.int v2), Z, I1, J)))) : zE (d + 3) kX11_rounds 0 [some (.ref 0)] [] Z I J o := by
  refine ex_step (pc' := 1) dX11_rounds_0 rfl ?_
  refine ex_getr dX11_rounds_1 wf_RX11_51 (ly_a0 hL) rfl (ly_r0_8 hL) ?_
  refine ex_step (pc' := 5) dX11_rounds_4 rfl ?_
  refine ex_getr dX11_rounds_5 wf_RX11_27 (ly_a0 hL) rfl (ly_text hL) ?_
  refine ex_step (pc' := 9) dX11_rounds_8 rfl ?_
  refine ex_getr dX11_rounds_9 wf_RX11_34 (ly_a0 hL) rfl (ly_r0_5 hL) ?_
  obtain ⟨I1, hc, h⟩ := h
  refine ex_callV (as := [.ref t, .ref 47]) (st := []) (ci := 7) dX11_rounds_12 zmX7_look zl_RX11_216 ziX7_look zvX7_look (by decide) (ly_a401 hL) rfl (Nat.le_of_ble_eq_true rfl) (Nat.le_of_ble_eq_true rfl) hc ?_
  refine ex_step (pc' := 16) dX11_rounds_15 rfl ?_
  refine ex_getr dX11_rounds_16 wf_RX11_51 (ly_a0 hL) rfl (ly_r0_8 hL) ?_
  obtain ⟨v2, hc, h⟩ := h
  refine ex_callV (as := []) (st := []) (ci := 7) dX11_rounds_19 zmX7_countRounds zl_RX11_332 ziX7_countRounds zvX7_countRounds (by decide) (ly_a401 hL) rfl (Nat.le_of_ble_eq_true rfl) (Nat.le_of_ble_eq_true rfl) hc ?_
  rw [h]; exact ex_ret (v := some (.int v2)) ⟨dX11_rounds_22, _, rfl, rfl⟩
set_option maxHeartbeats 4000000 in
theorem BX11_crowd_0 {d : Nat} {Z : zZ} {I : zI} {J : zJ} {o : zO} {t u : Nat} (x1 : Int32) (hL : zLY Z t u)  (h : ((x1 = 0 → (∃ (v1 : Int32), zE (d + 2) kX0_countLying 0 [some (.ref 47), some (.ref t), some (.int (-1)), none, none] [] Z I J (some (.int v1), Z, I, J) ∧ ((¬ v1 = 0 → (∃ (v2 : Int32) (I3 : zI), zE (d + 2) kX7_mostCrowded 0 [some (.ref 401), some (.ref t), some (.ref 47), none, none] [] Z I J (some (.int v2), Z, I3, J) ∧ ((¬ x1 = 1 → o = (some (.int (((100 : Int32) * (v2 / 12)) + (v2 - v2 / 12 * 12))), Z, I3, J)) ∧ (x1 = 1 → (∃ (v4 : Int32), zE (d + 2) kJ6_bitCount_0f7a4 0 [some (.int (zat I3 405 144 v2))] [] Z I3 J (some (.int v4), Z, I3, J) ∧ o = (some (.int v4), Z, I3, J)))))) ∧ (v1 = 0 → o = (some (.int (-2)), Z, I, J))))) ∧ (¬ x1 = 0 → ((x1 = 1 → (∃ (v5 : Int32), zE (d + 2) kX0_countLying 0 [some (.ref 47), some (.ref t), some (.int (-1)), none, none] [] Z I J (some (.int v5), Z, I, J) ∧ ((¬ v5 = 0 → (∃ (v6 : Int32) (I7 : zI), zE (d + 2) kX7_mostCrowded 0 [some (.ref 401), some (.ref t), some (.ref 47), none, none] [] Z I J (some (.int v6), Z, I7, J) ∧ ((¬ x1 = 1 → o = (some (.int (((100 : Int32) * (v6 / 12)) + (v6 - v6 / 12 * 12))), Z, I7, J)) ∧ (x1 = 1 → (∃ (v8 : Int32), zE (d + 2) kJ6_bitCount_0f7a4 0 [some (.int (zat I7 405 144 v6))] [] Z I7 J (some (.int v8), Z, I7, J) ∧ o = (some (.int v8), Z, I7, J)))))) ∧ (v5 = 0 → o = (some (.int (-2)), Z, I, J))))) ∧ (¬ x1 = 1 → o = (some (.int (-1)), Z, I, J)))))) : zE (d + 3) kX11_crowd 0 [some (.ref 0), some (.int x1), none] [] Z I J o := by
  refine ex_step (pc' := 1) dX11_crowd_0 rfl ?_
  refine ex_if (pc' := 11) dX11_crowd_1 (by decide) (fun c => ?_) (fun c => ?_)
  · have h := h.1 c
    refine ex_step (pc' := 12) dX11_crowd_11 rfl ?_
    refine ex_getr dX11_crowd_12 wf_RX11_34 (ly_a0 hL) rfl (ly_r0_5 hL) ?_
    refine ex_step (pc' := 16) dX11_crowd_15 rfl ?_
    refine ex_getr dX11_crowd_16 wf_RX11_27 (ly_a0 hL) rfl (ly_text hL) ?_
    refine ex_step (pc' := 20) (st' := [.int (-1), .ref t, .ref 47]) dX11_crowd_19 rfl ?_
    obtain ⟨v1, hc, h⟩ := h
    refine ex_callV (as := [.ref t, .int (-1)]) (st := []) (ci := 0) dX11_crowd_20 zmX0_countLying zl_RX11_244 ziX0_countLying zvX0_countLying (by decide) (zDy_o (ly_d47 hL)) rfl (Nat.le_of_ble_eq_true rfl) (Nat.le_of_ble_eq_true rfl) hc ?_
    refine ex_if (pc' := 29) dX11_crowd_23 (by decide) (fun c => ?_) (fun c => ?_)
    · have h := h.1 c
      refine ex_step (pc' := 30) dX11_crowd_29 rfl ?_
      refine ex_getr dX11_crowd_30 wf_RX11_51 (ly_a0 hL) rfl (ly_r0_8 hL) ?_
      refine ex_step (pc' := 34) dX11_crowd_33 rfl ?_
      refine ex_getr dX11_crowd_34 wf_RX11_27 (ly_a0 hL) rfl (ly_text hL) ?_
      refine ex_step (pc' := 38) dX11_crowd_37 rfl ?_
      refine ex_getr dX11_crowd_38 wf_RX11_34 (ly_a0 hL) rfl (ly_r0_5 hL) ?_
      obtain ⟨v2, I3, hc, h⟩ := h
      refine ex_callV (as := [.ref t, .ref 47]) (st := []) (ci := 7) dX11_crowd_41 zmX7_mostCrowded zl_RX11_335 ziX7_mostCrowded zvX7_mostCrowded (by decide) (ly_a401 hL) rfl (Nat.le_of_ble_eq_true rfl) (Nat.le_of_ble_eq_true rfl) hc ?_
      refine ex_step (pc' := 45) (ls' := [some (.ref 0), some (.int x1), some (.int v2)]) dX11_crowd_44 rfl ?_
      refine ex_step (pc' := 46) dX11_crowd_45 rfl ?_
      refine ex_step (pc' := 47) (st' := [.int 1, .int x1]) dX11_crowd_46 rfl ?_
      refine ex_icmp (pc' := 65) dX11_crowd_47 (by decide) (fun c => ?_) (fun c => ?_)
      · have h := h.1 c
        refine ex_step (pc' := 67) (st' := [.int 100]) dX11_crowd_65 rfl ?_
        refine ex_step (pc' := 68) dX11_crowd_67 rfl ?_
        refine ex_step (pc' := 70) (st' := [.int 12, .int v2, .int 100]) dX11_crowd_68 rfl ?_
        refine ex_div dX11_crowd_70 (by decide) ?_
        refine ex_step (pc' := 72) dX11_crowd_71 rfl ?_
        refine ex_step (pc' := 73) dX11_crowd_72 rfl ?_
        refine ex_step (pc' := 75) (st' := [.int 12, .int v2, .int ((100 : Int32) * (v2 / 12))]) dX11_crowd_73 rfl ?_
        refine ex_rem dX11_crowd_75 (by decide) ?_
        refine ex_step (pc' := 77) dX11_crowd_76 rfl ?_
        rw [h]; exact ex_ret (v := some (.int (((100 : Int32) * (v2 / 12)) + (v2 - v2 / 12 * 12)))) ⟨dX11_crowd_77, _, rfl, rfl⟩
      · have h := h.2 (Classical.not_not.mp c)
        refine ex_step (pc' := 51) dX11_crowd_50 rfl ?_
        refine ex_getr dX11_crowd_51 wf_RX11_51 (ly_a0 hL) rfl (ly_r0_8 hL) ?_
        refine ex_getr dX11_crowd_54 wf_RX11_338 (ly_a401 hL) rfl (ly_r401_4 hL) ?_
        refine ex_step (pc' := 58) dX11_crowd_57 rfl ?_
        refine ex_callS (as := [.ref 405, .int v2]) (st := []) dX11_crowd_58 zmX11_at zl_RX11_125 zsX11_at rfl (Nat.le_of_ble_eq_true rfl) (Nat.le_of_ble_eq_true rfl) (S_at' (by decide) (ly_a405 hL)) ?_
        obtain ⟨v4, hc, h⟩ := h
        refine ex_callS (as := [.int (zat I3 405 144 v2)]) (st := []) dX11_crowd_61 zmJ6_bitCount_0f7a4 zl_RX11_232 zsJ6_bitCount_0f7a4 rfl (Nat.le_of_ble_eq_true rfl) (Nat.le_of_ble_eq_true rfl) hc ?_
        rw [h]; exact ex_ret (v := some (.int v4)) ⟨dX11_crowd_64, _, rfl, rfl⟩
    · have h := h.2 (Classical.not_not.mp c)
      refine ex_step (pc' := 28) (st' := [.int (-2)]) dX11_crowd_26 rfl ?_
      rw [h]; exact ex_ret (v := some (.int (-2))) ⟨dX11_crowd_28, _, rfl, rfl⟩
  · have h := h.2 c
    refine ex_step (pc' := 5) dX11_crowd_4 rfl ?_
    refine ex_step (pc' := 6) (st' := [.int 1, .int x1]) dX11_crowd_5 rfl ?_
    refine ex_icmp (pc' := 11) dX11_crowd_6 (by decide) (fun c => ?_) (fun c => ?_)
    · have h := h.1 c
      refine ex_step (pc' := 12) dX11_crowd_11 rfl ?_
      refine ex_getr dX11_crowd_12 wf_RX11_34 (ly_a0 hL) rfl (ly_r0_5 hL) ?_
      refine ex_step (pc' := 16) dX11_crowd_15 rfl ?_
      refine ex_getr dX11_crowd_16 wf_RX11_27 (ly_a0 hL) rfl (ly_text hL) ?_
      refine ex_step (pc' := 20) (st' := [.int (-1), .ref t, .ref 47]) dX11_crowd_19 rfl ?_
      obtain ⟨v5, hc, h⟩ := h
      refine ex_callV (as := [.ref t, .int (-1)]) (st := []) (ci := 0) dX11_crowd_20 zmX0_countLying zl_RX11_244 ziX0_countLying zvX0_countLying (by decide) (zDy_o (ly_d47 hL)) rfl (Nat.le_of_ble_eq_true rfl) (Nat.le_of_ble_eq_true rfl) hc ?_
      refine ex_if (pc' := 29) dX11_crowd_23 (by decide) (fun c => ?_) (fun c => ?_)
      · have h := h.1 c
        refine ex_step (pc' := 30) dX11_crowd_29 rfl ?_
        refine ex_getr dX11_crowd_30 wf_RX11_51 (ly_a0 hL) rfl (ly_r0_8 hL) ?_
        refine ex_step (pc' := 34) dX11_crowd_33 rfl ?_
        refine ex_getr dX11_crowd_34 wf_RX11_27 (ly_a0 hL) rfl (ly_text hL) ?_
        refine ex_step (pc' := 38) dX11_crowd_37 rfl ?_
        refine ex_getr dX11_crowd_38 wf_RX11_34 (ly_a0 hL) rfl (ly_r0_5 hL) ?_
        obtain ⟨v6, I7, hc, h⟩ := h
        refine ex_callV (as := [.ref t, .ref 47]) (st := []) (ci := 7) dX11_crowd_41 zmX7_mostCrowded zl_RX11_335 ziX7_mostCrowded zvX7_mostCrowded (by decide) (ly_a401 hL) rfl (Nat.le_of_ble_eq_true rfl) (Nat.le_of_ble_eq_true rfl) hc ?_
        refine ex_step (pc' := 45) (ls' := [some (.ref 0), some (.int x1), some (.int v6)]) dX11_crowd_44 rfl ?_
        refine ex_step (pc' := 46) dX11_crowd_45 rfl ?_
        refine ex_step (pc' := 47) (st' := [.int 1, .int x1]) dX11_crowd_46 rfl ?_
        refine ex_icmp (pc' := 65) dX11_crowd_47 (by decide) (fun c => ?_) (fun c => ?_)
        · have h := h.1 c
          refine ex_step (pc' := 67) (st' := [.int 100]) dX11_crowd_65 rfl ?_
          refine ex_step (pc' := 68) dX11_crowd_67 rfl ?_
          refine ex_step (pc' := 70) (st' := [.int 12, .int v6, .int 100]) dX11_crowd_68 rfl ?_
          refine ex_div dX11_crowd_70 (by decide) ?_
          refine ex_step (pc' := 72) dX11_crowd_71 rfl ?_
          refine ex_step (pc' := 73) dX11_crowd_72 rfl ?_
          refine ex_step (pc' := 75) (st' := [.int 12, .int v6, .int ((100 : Int32) * (v6 / 12))]) dX11_crowd_73 rfl ?_
          refine ex_rem dX11_crowd_75 (by decide) ?_
          refine ex_step (pc' := 77) dX11_crowd_76 rfl ?_
          rw [h]; exact ex_ret (v := some (.int (((100 : Int32) * (v6 / 12)) + (v6 - v6 / 12 * 12)))) ⟨dX11_crowd_77, _, rfl, rfl⟩
        · have h := h.2 (Classical.not_not.mp c)
          refine ex_step (pc' := 51) dX11_crowd_50 rfl ?_
          refine ex_getr dX11_crowd_51 wf_RX11_51 (ly_a0 hL) rfl (ly_r0_8 hL) ?_
          refine ex_getr dX11_crowd_54 wf_RX11_338 (ly_a401 hL) rfl (ly_r401_4 hL) ?_
          refine ex_step (pc' := 58) dX11_crowd_57 rfl ?_
          refine ex_callS (as := [.ref 405, .int v6]) (st := []) dX11_crowd_58 zmX11_at zl_RX11_125 zsX11_at rfl (Nat.le_of_ble_eq_true rfl) (Nat.le_of_ble_eq_true rfl) (S_at' (by decide) (ly_a405 hL)) ?_
          obtain ⟨v8, hc, h⟩ := h
          refine ex_callS (as := [.int (zat I7 405 144 v6)]) (st := []) dX11_crowd_61 zmJ6_bitCount_0f7a4 zl_RX11_232 zsJ6_bitCount_0f7a4 rfl (Nat.le_of_ble_eq_true rfl) (Nat.le_of_ble_eq_true rfl) hc ?_
          rw [h]; exact ex_ret (v := some (.int v8)) ⟨dX11_crowd_64, _, rfl, rfl⟩
      · have h := h.2 (Classical.not_not.mp c)
        refine ex_step (pc' := 28) (st' := [.int (-2)]) dX11_crowd_26 rfl ?_
        rw [h]; exact ex_ret (v := some (.int (-2))) ⟨dX11_crowd_28, _, rfl, rfl⟩
    · have h := h.2 c
      refine ex_step (pc' := 10) (st' := [.int (-1)]) dX11_crowd_9 rfl ?_
      rw [h]; exact ex_ret (v := some (.int (-1))) ⟨dX11_crowd_10, _, rfl, rfl⟩
set_option maxHeartbeats 4000000 in
theorem BX11_plain_0 {d : Nat} {Z : zZ} {I : zI} {J : zJ} {o : zO} {t u : Nat} (x1 : Int32) (hL : zLY Z t u)  (h : ((x1 = 0 → (∃ (I1 : zI), zE (d + 6) kX4_choose 0 [some (.ref 410), some (.ref t), some (.ref 407), none, none] [] Z I J (none, Z, I1, J) ∧ ((¬ x1 = 0 → o = (some (.int (I1 410 1)), Z, I1, J)) ∧ (x1 = 0 → o = (some (.int (I1 410 0)), Z, I1, J))))) ∧ (¬ x1 = 0 → ((x1 = 1 → (∃ (I2 : zI), zE (d + 6) kX4_choose 0 [some (.ref 410), some (.ref t), some (.ref 407), none, none] [] Z I J (none, Z, I2, J) ∧ ((¬ x1 = 0 → o = (some (.int (I2 410 1)), Z, I2, J)) ∧ (x1 = 0 → o = (some (.int (I2 410 0)), Z, I2, J))))) ∧ (¬ x1 = 1 → o = (some (.int (-1)), Z, I, J)))))) : zE (d + 7) kX11_plain 0 [some (.ref 0), some (.int x1)] [] Z I J o := by
  refine ex_step (pc' := 1) dX11_plain_0 rfl ?_
  refine ex_if (pc' := 11) dX11_plain_1 (by decide) (fun c => ?_) (fun c => ?_)
  · have h := h.1 c
    refine ex_step (pc' := 12) dX11_plain_11 rfl ?_
    refine ex_getr dX11_plain_12 wf_RX11_65 (ly_a0 hL) rfl (ly_r0_10 hL) ?_
    refine ex_step (pc' := 16) dX11_plain_15 rfl ?_
    refine ex_getr dX11_plain_16 wf_RX11_27 (ly_a0 hL) rfl (ly_text hL) ?_
    refine ex_step (pc' := 20) dX11_plain_19 rfl ?_
    refine ex_getr dX11_plain_20 wf_RX11_58 (ly_a0 hL) rfl (ly_r0_9 hL) ?_
    obtain ⟨I1, hc, h⟩ := h
    refine ex_callV (as := [.ref t, .ref 407]) (st := []) (ci := 4) dX11_plain_23 zmX4_choose zl_RX11_341 ziX4_choose zvX4_choose (by decide) (ly_a410 hL) rfl (Nat.le_of_ble_eq_true rfl) (Nat.le_of_ble_eq_true rfl) hc ?_
    refine ex_step (pc' := 27) dX11_plain_26 rfl ?_
    refine ex_if (pc' := 40) dX11_plain_27 (by decide) (fun c => ?_) (fun c => ?_)
    · have h := h.1 c
      refine ex_step (pc' := 41) dX11_plain_40 rfl ?_
      refine ex_getr dX11_plain_41 wf_RX11_65 (ly_a0 hL) rfl (ly_r0_10 hL) ?_
      refine ex_geti dX11_plain_44 wf_RX11_347 (ly_a410 hL) rfl ?_
      rw [h]; exact ex_ret (v := some (.int (I1 410 1))) ⟨dX11_plain_47, _, rfl, rfl⟩
    · have h := h.2 (Classical.not_not.mp c)
      refine ex_step (pc' := 31) dX11_plain_30 rfl ?_
      refine ex_getr dX11_plain_31 wf_RX11_65 (ly_a0 hL) rfl (ly_r0_10 hL) ?_
      refine ex_geti dX11_plain_34 wf_RX11_345 (ly_a410 hL) rfl ?_
      refine ex_step (pc' := 47) dX11_plain_37 rfl ?_
      rw [h]; exact ex_ret (v := some (.int (I1 410 0))) ⟨dX11_plain_47, _, rfl, rfl⟩
  · have h := h.2 c
    refine ex_step (pc' := 5) dX11_plain_4 rfl ?_
    refine ex_step (pc' := 6) (st' := [.int 1, .int x1]) dX11_plain_5 rfl ?_
    refine ex_icmp (pc' := 11) dX11_plain_6 (by decide) (fun c => ?_) (fun c => ?_)
    · have h := h.1 c
      refine ex_step (pc' := 12) dX11_plain_11 rfl ?_
      refine ex_getr dX11_plain_12 wf_RX11_65 (ly_a0 hL) rfl (ly_r0_10 hL) ?_
      refine ex_step (pc' := 16) dX11_plain_15 rfl ?_
      refine ex_getr dX11_plain_16 wf_RX11_27 (ly_a0 hL) rfl (ly_text hL) ?_
      refine ex_step (pc' := 20) dX11_plain_19 rfl ?_
      refine ex_getr dX11_plain_20 wf_RX11_58 (ly_a0 hL) rfl (ly_r0_9 hL) ?_
      obtain ⟨I2, hc, h⟩ := h
      refine ex_callV (as := [.ref t, .ref 407]) (st := []) (ci := 4) dX11_plain_23 zmX4_choose zl_RX11_341 ziX4_choose zvX4_choose (by decide) (ly_a410 hL) rfl (Nat.le_of_ble_eq_true rfl) (Nat.le_of_ble_eq_true rfl) hc ?_
      refine ex_step (pc' := 27) dX11_plain_26 rfl ?_
      refine ex_if (pc' := 40) dX11_plain_27 (by decide) (fun c => ?_) (fun c => ?_)
      · have h := h.1 c
        refine ex_step (pc' := 41) dX11_plain_40 rfl ?_
        refine ex_getr dX11_plain_41 wf_RX11_65 (ly_a0 hL) rfl (ly_r0_10 hL) ?_
        refine ex_geti dX11_plain_44 wf_RX11_347 (ly_a410 hL) rfl ?_
        rw [h]; exact ex_ret (v := some (.int (I2 410 1))) ⟨dX11_plain_47, _, rfl, rfl⟩
      · have h := h.2 (Classical.not_not.mp c)
        refine ex_step (pc' := 31) dX11_plain_30 rfl ?_
        refine ex_getr dX11_plain_31 wf_RX11_65 (ly_a0 hL) rfl (ly_r0_10 hL) ?_
        refine ex_geti dX11_plain_34 wf_RX11_345 (ly_a410 hL) rfl ?_
        refine ex_step (pc' := 47) dX11_plain_37 rfl ?_
        rw [h]; exact ex_ret (v := some (.int (I2 410 0))) ⟨dX11_plain_47, _, rfl, rfl⟩
    · have h := h.2 c
      refine ex_step (pc' := 10) (st' := [.int (-1)]) dX11_plain_9 rfl ?_
      rw [h]; exact ex_ret (v := some (.int (-1))) ⟨dX11_plain_10, _, rfl, rfl⟩
set_option maxHeartbeats 4000000 in
theorem BX11_thieves_0 {d : Nat} {Z : zZ} {I : zI} {J : zJ} {o : zO} {t u : Nat}  (hL : zLY Z t u)  (h : zE (d + 2) kX11_thieves 4 [some (.ref 0), some (.int 0), some (.int 0), none] [] Z I J o) : zE (d + 2) kX11_thieves 0 [some (.ref 0), none, none, none] [] Z I J o := by
  refine ex_step (pc' := 1) (st' := [.int 0]) dX11_thieves_0 rfl ?_
  refine ex_step (pc' := 2) (ls' := [some (.ref 0), some (.int 0), none, none]) dX11_thieves_1 rfl ?_
  refine ex_step (pc' := 3) (st' := [.int 0]) dX11_thieves_2 rfl ?_
  refine ex_step (pc' := 4) (ls' := [some (.ref 0), some (.int 0), some (.int 0), none]) dX11_thieves_3 rfl ?_
  exact h
set_option maxHeartbeats 4000000 in
theorem BX11_thieves_4 {d : Nat} {Z : zZ} {I : zI} {J : zJ} {o : zO} {t u : Nat} (x1 : Int32) (x2 : Int32) (hL : zLY Z t u)  (h : (((I t 2) ≤ x2 → o = (some (.int x1), Z, I, J)) ∧ (¬ (I t 2) ≤ x2 → zE (d + 2) kX11_thieves 17 [some (.ref 0), some (.int x1), some (.int x2), some (.int 0)] [] Z I J o))) : zE (d + 2) kX11_thieves 4 [some (.ref 0), some (.int x1), some (.int x2), none] [] Z I J o := by
  refine ex_step (pc' := 5) dX11_thieves_4 rfl ?_
  refine ex_step (pc' := 6) dX11_thieves_5 rfl ?_
  refine ex_getr dX11_thieves_6 wf_RX11_27 (ly_a0 hL) rfl (ly_text hL) ?_
  refine ex_geti dX11_thieves_9 wf_RX11_283 (zTx_o (ly_tx hL)) rfl ?_
  refine ex_icmp (pc' := 79) dX11_thieves_12 (by decide) (fun c => ?_) (fun c => ?_)
  · have h := h.1 c
    refine ex_step (pc' := 80) dX11_thieves_79 rfl ?_
    rw [h]; exact ex_ret (v := some (.int x1)) ⟨dX11_thieves_80, _, rfl, rfl⟩
  · have h := h.2 c
    refine ex_step (pc' := 16) (st' := [.int 0]) dX11_thieves_15 rfl ?_
    refine ex_step (pc' := 17) (ls' := [some (.ref 0), some (.int x1), some (.int x2), some (.int 0)]) dX11_thieves_16 rfl ?_
    exact h
set_option maxHeartbeats 4000000 in
theorem BX11_thieves_17 {d : Nat} {Z : zZ} {I : zI} {J : zJ} {o : zO} {t u : Nat} (x1 : Int32) (x2 : Int32) (x3 : Int32) (hL : zLY Z t u)  (h : (((I t 3) ≤ x3 → zE (d + 2) kX11_thieves 4 [some (.ref 0), some (.int x1), some (.int (x2 + 1)), none] [] Z I J o) ∧ (¬ (I t 3) ≤ x3 → (∃ (v1 : Int32), zE (d + 1) kX0_turnsAbout 0 [some (.ref 47), some (.int x2), some (.int (zat I (t + 14) 6 x3)), some (.int (zat I (t + 15) 6 x3)), none, none, none, none, none] [] Z I J (some (.int v1), Z, I, J) ∧ ((0 ≤ v1 → zE (d + 2) kX11_thieves 17 [some (.ref 0), some (.int x1), some (.int x2), some (.int (x3 + 1))] [] Z I J o) ∧ (¬ 0 ≤ v1 → (∀ y2 : Int32, y2 = (x1 ||| ((1 : Int32) <<< (x2 &&& 31))) → zE (d + 2) kX11_thieves 17 [some (.ref 0), some (.int y2), some (.int x2), some (.int (x3 + 1))] [] Z I J o))))))) : zE (d + 2) kX11_thieves 17 [some (.ref 0), some (.int x1), some (.int x2), some (.int x3)] [] Z I J o := by
  refine ex_step (pc' := 18) dX11_thieves_17 rfl ?_
  refine ex_step (pc' := 19) dX11_thieves_18 rfl ?_
  refine ex_getr dX11_thieves_19 wf_RX11_27 (ly_a0 hL) rfl (ly_text hL) ?_
  refine ex_geti dX11_thieves_22 wf_RX11_264 (zTx_o (ly_tx hL)) rfl ?_
  refine ex_icmp (pc' := 73) dX11_thieves_25 (by decide) (fun c => ?_) (fun c => ?_)
  · have h := h.1 c
    refine ex_step (pc' := 76) (ls' := [some (.ref 0), some (.int x1), some (.int (x2 + 1)), some (.int x3)]) dX11_thieves_73 rfl ?_
    refine ex_step (pc' := 4) dX11_thieves_76 rfl ?_
    exact ex_less (ls' := [some (.ref 0), some (.int x1), some (.int (x2 + 1)), none]) ⟨rfl, ⟨rfl, ⟨rfl, trivial⟩⟩⟩ h
  · have h := h.2 c
    refine ex_step (pc' := 29) dX11_thieves_28 rfl ?_
    refine ex_getr dX11_thieves_29 wf_RX11_34 (ly_a0 hL) rfl (ly_r0_5 hL) ?_
    refine ex_step (pc' := 33) dX11_thieves_32 rfl ?_
    refine ex_step (pc' := 34) dX11_thieves_33 rfl ?_
    refine ex_getr dX11_thieves_34 wf_RX11_27 (ly_a0 hL) rfl (ly_text hL) ?_
    refine ex_getr dX11_thieves_37 wf_RX11_267 (zTx_o (ly_tx hL)) rfl (zTx_r15 (ly_tx hL)) ?_
    refine ex_step (pc' := 41) dX11_thieves_40 rfl ?_
    refine ex_callS (as := [.ref (t + 14), .int x3]) (st := [.int x2, .ref 47]) dX11_thieves_41 zmX11_at zl_RX11_125 zsX11_at rfl (Nat.le_of_ble_eq_true rfl) (Nat.le_of_ble_eq_true rfl) (S_at' (by decide) (zTx_a14 (ly_tx hL))) ?_
    refine ex_step (pc' := 45) dX11_thieves_44 rfl ?_
    refine ex_getr dX11_thieves_45 wf_RX11_27 (ly_a0 hL) rfl (ly_text hL) ?_
    refine ex_getr dX11_thieves_48 wf_RX11_270 (zTx_o (ly_tx hL)) rfl (zTx_r16 (ly_tx hL)) ?_
    refine ex_step (pc' := 52) dX11_thieves_51 rfl ?_
    refine ex_callS (as := [.ref (t + 15), .int x3]) (st := [.int (zat I (t + 14) 6 x3), .int x2, .ref 47]) dX11_thieves_52 zmX11_at zl_RX11_125 zsX11_at rfl (Nat.le_of_ble_eq_true rfl) (Nat.le_of_ble_eq_true rfl) (S_at' (by decide) (zTx_a15 (ly_tx hL))) ?_
    obtain ⟨v1, hc, h⟩ := h
    refine ex_callV (as := [.int x2, .int (zat I (t + 14) 6 x3), .int (zat I (t + 15) 6 x3)]) (st := []) (ci := 0) dX11_thieves_55 zmX0_turnsAbout zl_RX11_273 ziX0_turnsAbout zvX0_turnsAbout (by decide) (zDy_o (ly_d47 hL)) rfl (Nat.le_of_ble_eq_true rfl) (Nat.le_of_ble_eq_true rfl) hc ?_
    refine ex_if (pc' := 67) dX11_thieves_58 (by decide) (fun c => ?_) (fun c => ?_)
    · have h := h.1 c
      refine ex_step (pc' := 70) (ls' := [some (.ref 0), some (.int x1), some (.int x2), some (.int (x3 + 1))]) dX11_thieves_67 rfl ?_
      refine ex_step (pc' := 17) dX11_thieves_70 rfl ?_
      exact h
    · have h := h.2 c
      refine ex_step (pc' := 62) dX11_thieves_61 rfl ?_
      refine ex_step (pc' := 63) (st' := [.int 1, .int x1]) dX11_thieves_62 rfl ?_
      refine ex_step (pc' := 64) dX11_thieves_63 rfl ?_
      refine ex_step (pc' := 65) dX11_thieves_64 rfl ?_
      refine ex_step (pc' := 66) dX11_thieves_65 rfl ?_
      refine ex_topi (fun y2 ey2 => ?_)
      have h := h y2 ey2
      refine ex_step (pc' := 67) (ls' := [some (.ref 0), some (.int y2), some (.int x2), some (.int x3)]) dX11_thieves_66 rfl ?_
      refine ex_step (pc' := 70) (ls' := [some (.ref 0), some (.int y2), some (.int x2), some (.int (x3 + 1))]) dX11_thieves_67 rfl ?_
      refine ex_step (pc' := 17) dX11_thieves_70 rfl ?_
      exact h
set_option maxHeartbeats 4000000 in
theorem BX11_nearest_0 {d : Nat} {Z : zZ} {I : zI} {J : zJ} {o : zO} {t u : Nat} (x1 : Int32) (x2 : Int32) (hL : zLY Z t u)  (h : (∃ (v1 : Int32), zE (d + 2) kX11_isMan 0 [some (.ref 0), some (.int x1)] [] Z I J (some (.int v1), Z, I, J) ∧ ((v1 = 0 → o = (some (.int (-1)), Z, I, J)) ∧ (¬ v1 = 0 → ((x2 = 0 → zE (d + 3) kX11_nearest 30 [some (.ref 0), some (.int x1), some (.int x2), some (.int (-2)), some (.int 1000000), some (.int 0), none] [] Z I J o) ∧ (¬ x2 = 0 → ((x2 = 1 → zE (d + 3) kX11_nearest 30 [some (.ref 0), some (.int x1), some (.int x2), some (.int (-2)), some (.int 1000000), some (.int 0), none] [] Z I J o) ∧ (¬ x2 = 1 → o = (some (.int (-1)), Z, I, J))))))))) : zE (d + 3) kX11_nearest 0 [some (.ref 0), some (.int x1), some (.int x2), none, none, none, none] [] Z I J o := by
  refine ex_step (pc' := 1) dX11_nearest_0 rfl ?_
  refine ex_step (pc' := 2) dX11_nearest_1 rfl ?_
  obtain ⟨v1, hc, h⟩ := h
  refine ex_callV (as := [.int x1]) (st := []) (ci := 11) dX11_nearest_2 zmX11_isMan zl_RX11_118 ziX11_isMan zvX11_isMan (by decide) (ly_a0 hL) rfl (Nat.le_of_ble_eq_true rfl) (Nat.le_of_ble_eq_true rfl) hc ?_
  refine ex_if (pc' := 17) dX11_nearest_5 (by decide) (fun c => ?_) (fun c => ?_)
  · have h := h.1 c
    refine ex_step (pc' := 18) (st' := [.int (-1)]) dX11_nearest_17 rfl ?_
    rw [h]; exact ex_ret (v := some (.int (-1))) ⟨dX11_nearest_18, _, rfl, rfl⟩
  · have h := h.2 c
    refine ex_step (pc' := 9) dX11_nearest_8 rfl ?_
    refine ex_if (pc' := 19) dX11_nearest_9 (by decide) (fun c => ?_) (fun c => ?_)
    · have h := h.1 c
      refine ex_step (pc' := 21) (st' := [.int (-2)]) dX11_nearest_19 rfl ?_
      refine ex_step (pc' := 22) (ls' := [some (.ref 0), some (.int x1), some (.int x2), some (.int (-2)), none, none, none]) dX11_nearest_21 rfl ?_
      refine ex_ldcw dX11_nearest_22 zk_RX11_350 ?_
      refine ex_step (pc' := 27) (ls' := [some (.ref 0), some (.int x1), some (.int x2), some (.int (-2)), some (.int 1000000), none, none]) dX11_nearest_25 rfl ?_
      refine ex_step (pc' := 28) (st' := [.int 0]) dX11_nearest_27 rfl ?_
      refine ex_step (pc' := 30) (ls' := [some (.ref 0), some (.int x1), some (.int x2), some (.int (-2)), some (.int 1000000), some (.int 0), none]) dX11_nearest_28 rfl ?_
      exact h
    · have h := h.2 c
      refine ex_step (pc' := 13) dX11_nearest_12 rfl ?_
      refine ex_step (pc' := 14) (st' := [.int 1, .int x2]) dX11_nearest_13 rfl ?_
      refine ex_icmp (pc' := 19) dX11_nearest_14 (by decide) (fun c => ?_) (fun c => ?_)
      · have h := h.1 c
        refine ex_step (pc' := 21) (st' := [.int (-2)]) dX11_nearest_19 rfl ?_
        refine ex_step (pc' := 22) (ls' := [some (.ref 0), some (.int x1), some (.int x2), some (.int (-2)), none, none, none]) dX11_nearest_21 rfl ?_
        refine ex_ldcw dX11_nearest_22 zk_RX11_350 ?_
        refine ex_step (pc' := 27) (ls' := [some (.ref 0), some (.int x1), some (.int x2), some (.int (-2)), some (.int 1000000), none, none]) dX11_nearest_25 rfl ?_
        refine ex_step (pc' := 28) (st' := [.int 0]) dX11_nearest_27 rfl ?_
        refine ex_step (pc' := 30) (ls' := [some (.ref 0), some (.int x1), some (.int x2), some (.int (-2)), some (.int 1000000), some (.int 0), none]) dX11_nearest_28 rfl ?_
        exact h
      · have h := h.2 c
        refine ex_step (pc' := 18) (st' := [.int (-1)]) dX11_nearest_17 rfl ?_
        rw [h]; exact ex_ret (v := some (.int (-1))) ⟨dX11_nearest_18, _, rfl, rfl⟩
set_option maxHeartbeats 4000000 in
theorem BX11_nearest_30 {d : Nat} {Z : zZ} {I : zI} {J : zJ} {o : zO} {t u : Nat} (x1 : Int32) (x2 : Int32) (x3 : Int32) (x4 : Int32) (x5 : Int32) (hL : zLY Z t u)  (h : (((I t 2) ≤ x5 → ((x2 = 0 → o = (some (.int x3), Z, I, J)) ∧ (¬ x2 = 0 → ((¬ x3 = (-2) → o = (some (.int x4), Z, I, J)) ∧ (x3 = (-2) → o = (some (.int x3), Z, I, J)))))) ∧ (¬ (I t 2) ≤ x5 → (∃ (v1 : Int32), zE (d + 2) kX0_span 0 [some (.ref 47), some (.int x1), some (.int x5)] [] Z I J (some (.int v1), Z, I, J) ∧ ((x5 = x1 → zE (d + 3) kX11_nearest 30 [some (.ref 0), some (.int x1), some (.int x2), some (.int x3), some (.int x4), some (.int (x5 + 1)), none] [] Z I J o) ∧ (¬ x5 = x1 → ((x4 ≤ v1 → zE (d + 3) kX11_nearest 30 [some (.ref 0), some (.int x1), some (.int x2), some (.int x3), some (.int x4), some (.int (x5 + 1)), none] [] Z I J o) ∧ (¬ x4 ≤ v1 → zE (d + 3) kX11_nearest 30 [some (.ref 0), some (.int x1), some (.int x2), some (.int x5), some (.int v1), some (.int (x5 + 1)), none] [] Z I J o)))))))) : zE (d + 3) kX11_nearest 30 [some (.ref 0), some (.int x1), some (.int x2), some (.int x3), some (.int x4), some (.int x5), none] [] Z I J o := by
  refine ex_step (pc' := 32) dX11_nearest_30 rfl ?_
  refine ex_step (pc' := 33) dX11_nearest_32 rfl ?_
  refine ex_getr dX11_nearest_33 wf_RX11_27 (ly_a0 hL) rfl (ly_text hL) ?_
  refine ex_geti dX11_nearest_36 wf_RX11_283 (zTx_o (ly_tx hL)) rfl ?_
  refine ex_icmp (pc' := 80) dX11_nearest_39 (by decide) (fun c => ?_) (fun c => ?_)
  · have h := h.1 c
    refine ex_step (pc' := 81) dX11_nearest_80 rfl ?_
    refine ex_if (pc' := 90) dX11_nearest_81 (by decide) (fun c => ?_) (fun c => ?_)
    · have h := h.1 c
      refine ex_step (pc' := 91) dX11_nearest_90 rfl ?_
      refine ex_step (pc' := 96) dX11_nearest_91 rfl ?_
      rw [h]; exact ex_ret (v := some (.int x3)) ⟨dX11_nearest_96, _, rfl, rfl⟩
    · have h := h.2 c
      refine ex_step (pc' := 85) dX11_nearest_84 rfl ?_
      refine ex_step (pc' := 87) (st' := [.int (-2), .int x3]) dX11_nearest_85 rfl ?_
      refine ex_icmp (pc' := 94) dX11_nearest_87 (by decide) (fun c => ?_) (fun c => ?_)
      · have h := h.1 c
        refine ex_step (pc' := 96) dX11_nearest_94 rfl ?_
        rw [h]; exact ex_ret (v := some (.int x4)) ⟨dX11_nearest_96, _, rfl, rfl⟩
      · have h := h.2 (Classical.not_not.mp c)
        refine ex_step (pc' := 91) dX11_nearest_90 rfl ?_
        refine ex_step (pc' := 96) dX11_nearest_91 rfl ?_
        rw [h]; exact ex_ret (v := some (.int x3)) ⟨dX11_nearest_96, _, rfl, rfl⟩
  · have h := h.2 c
    refine ex_step (pc' := 43) dX11_nearest_42 rfl ?_
    refine ex_getr dX11_nearest_43 wf_RX11_34 (ly_a0 hL) rfl (ly_r0_5 hL) ?_
    refine ex_step (pc' := 47) dX11_nearest_46 rfl ?_
    refine ex_step (pc' := 49) dX11_nearest_47 rfl ?_
    obtain ⟨v1, hc, h⟩ := h
    refine ex_callV (as := [.int x1, .int x5]) (st := []) (ci := 0) dX11_nearest_49 zmX0_span zl_RX11_280 ziX0_span zvX0_span (by decide) (zDy_o (ly_d47 hL)) rfl (Nat.le_of_ble_eq_true rfl) (Nat.le_of_ble_eq_true rfl) hc ?_
    refine ex_step (pc' := 54) (ls' := [some (.ref 0), some (.int x1), some (.int x2), some (.int x3), some (.int x4), some (.int x5), some (.int v1)]) dX11_nearest_52 rfl ?_
    refine ex_step (pc' := 56) dX11_nearest_54 rfl ?_
    refine ex_step (pc' := 57) dX11_nearest_56 rfl ?_
    refine ex_icmp (pc' := 74) dX11_nearest_57 (by decide) (fun c => ?_) (fun c => ?_)
    · have h := h.1 c
      refine ex_step (pc' := 77) (ls' := [some (.ref 0), some (.int x1), some (.int x2), some (.int x3), some (.int x4), some (.int (x5 + 1)), some (.int v1)]) dX11_nearest_74 rfl ?_
      refine ex_step (pc' := 30) dX11_nearest_77 rfl ?_
      exact ex_less (ls' := [some (.ref 0), some (.int x1), some (.int x2), some (.int x3), some (.int x4), some (.int (x5 + 1)), none]) ⟨rfl, ⟨rfl, ⟨rfl, ⟨rfl, ⟨rfl, ⟨rfl, trivial⟩⟩⟩⟩⟩⟩ h
    · have h := h.2 c
      refine ex_step (pc' := 62) dX11_nearest_60 rfl ?_
      refine ex_step (pc' := 64) dX11_nearest_62 rfl ?_
      refine ex_icmp (pc' := 74) dX11_nearest_64 (by decide) (fun c => ?_) (fun c => ?_)
      · have h := h.1 c
        refine ex_step (pc' := 77) (ls' := [some (.ref 0), some (.int x1), some (.int x2), some (.int x3), some (.int x4), some (.int (x5 + 1)), some (.int v1)]) dX11_nearest_74 rfl ?_
        refine ex_step (pc' := 30) dX11_nearest_77 rfl ?_
        exact ex_less (ls' := [some (.ref 0), some (.int x1), some (.int x2), some (.int x3), some (.int x4), some (.int (x5 + 1)), none]) ⟨rfl, ⟨rfl, ⟨rfl, ⟨rfl, ⟨rfl, ⟨rfl, trivial⟩⟩⟩⟩⟩⟩ h
      · have h := h.2 c
        refine ex_step (pc' := 69) dX11_nearest_67 rfl ?_
        refine ex_step (pc' := 70) (ls' := [some (.ref 0), some (.int x1), some (.int x2), some (.int x5), some (.int x4), some (.int x5), some (.int v1)]) dX11_nearest_69 rfl ?_
        refine ex_step (pc' := 72) dX11_nearest_70 rfl ?_
        refine ex_step (pc' := 74) (ls' := [some (.ref 0), some (.int x1), some (.int x2), some (.int x5), some (.int v1), some (.int x5), some (.int v1)]) dX11_nearest_72 rfl ?_
        refine ex_step (pc' := 77) (ls' := [some (.ref 0), some (.int x1), some (.int x2), some (.int x5), some (.int v1), some (.int (x5 + 1)), some (.int v1)]) dX11_nearest_74 rfl ?_
        refine ex_step (pc' := 30) dX11_nearest_77 rfl ?_
        exact ex_less (ls' := [some (.ref 0), some (.int x1), some (.int x2), some (.int x5), some (.int v1), some (.int (x5 + 1)), none]) ⟨rfl, ⟨rfl, ⟨rfl, ⟨rfl, ⟨rfl, ⟨rfl, trivial⟩⟩⟩⟩⟩⟩ h
set_option maxHeartbeats 4000000 in
theorem BX11_unfair_0 {d : Nat} {Z : zZ} {I : zI} {J : zJ} {o : zO} {t u : Nat}  (hL : zLY Z t u)  (h : ((¬ (I t 2) = 0 → zE (d + 3) kX11_unfair 20 [some (.ref 0), some (.int 0), some (.int 1000000), some (.int 0), none] [] Z I J o) ∧ ((I t 2) = 0 → o = (some (.int 0), Z, I, J)))) : zE (d + 3) kX11_unfair 0 [some (.ref 0), none, none, none, none] [] Z I J o := by
  refine ex_step (pc' := 1) dX11_unfair_0 rfl ?_
  refine ex_getr dX11_unfair_1 wf_RX11_27 (ly_a0 hL) rfl (ly_text hL) ?_
  refine ex_geti dX11_unfair_4 wf_RX11_283 (zTx_o (ly_tx hL)) rfl ?_
  refine ex_if (pc' := 12) dX11_unfair_7 (by decide) (fun c => ?_) (fun c => ?_)
  · have h := h.1 c
    refine ex_step (pc' := 13) (st' := [.int 0]) dX11_unfair_12 rfl ?_
    refine ex_step (pc' := 14) (ls' := [some (.ref 0), some (.int 0), none, none, none]) dX11_unfair_13 rfl ?_
    refine ex_ldcw dX11_unfair_14 zk_RX11_350 ?_
    refine ex_step (pc' := 18) (ls' := [some (.ref 0), some (.int 0), some (.int 1000000), none, none]) dX11_unfair_17 rfl ?_
    refine ex_step (pc' := 19) (st' := [.int 0]) dX11_unfair_18 rfl ?_
    refine ex_step (pc' := 20) (ls' := [some (.ref 0), some (.int 0), some (.int 1000000), some (.int 0), none]) dX11_unfair_19 rfl ?_
    exact h
  · have h := h.2 (Classical.not_not.mp c)
    refine ex_step (pc' := 11) (st' := [.int 0]) dX11_unfair_10 rfl ?_
    rw [h]; exact ex_ret (v := some (.int 0)) ⟨dX11_unfair_11, _, rfl, rfl⟩
set_option maxHeartbeats 4000000 in
theorem BX11_unfair_20 {d : Nat} {Z : zZ} {I : zI} {J : zJ} {o : zO} {t u : Nat} (x1 : Int32) (x2 : Int32) (x3 : Int32) (hL : zLY Z t u)  (h : (((I t 2) ≤ x3 → o = (some (.int (x1 - x2)), Z, I, J)) ∧ (¬ (I t 2) ≤ x3 → (∃ (v1 : Int32), zE (d + 2) kX0_countOverOthers 0 [some (.ref 47), some (.int x3), none, none] [] Z I J (some (.int v1), Z, I, J) ∧ (∀ y2 : Int32, y2 = (if x1 < v1 then v1 else x1) → (∀ y3 : Int32, y3 = (if v1 < x2 then v1 else x2) → zE (d + 3) kX11_unfair 20 [some (.ref 0), some (.int y2), some (.int y3), some (.int (x3 + 1)), none] [] Z I J o)))))) : zE (d + 3) kX11_unfair 20 [some (.ref 0), some (.int x1), some (.int x2), some (.int x3), none] [] Z I J o := by
  refine ex_step (pc' := 21) dX11_unfair_20 rfl ?_
  refine ex_step (pc' := 22) dX11_unfair_21 rfl ?_
  refine ex_getr dX11_unfair_22 wf_RX11_27 (ly_a0 hL) rfl (ly_text hL) ?_
  refine ex_geti dX11_unfair_25 wf_RX11_283 (zTx_o (ly_tx hL)) rfl ?_
  refine ex_icmp (pc' := 61) dX11_unfair_28 (by decide) (fun c => ?_) (fun c => ?_)
  · have h := h.1 c
    refine ex_step (pc' := 62) dX11_unfair_61 rfl ?_
    refine ex_step (pc' := 63) dX11_unfair_62 rfl ?_
    refine ex_step (pc' := 64) dX11_unfair_63 rfl ?_
    rw [h]; exact ex_ret (v := some (.int (x1 - x2))) ⟨dX11_unfair_64, _, rfl, rfl⟩
  · have h := h.2 c
    refine ex_step (pc' := 32) dX11_unfair_31 rfl ?_
    refine ex_getr dX11_unfair_32 wf_RX11_34 (ly_a0 hL) rfl (ly_r0_5 hL) ?_
    refine ex_step (pc' := 36) dX11_unfair_35 rfl ?_
    obtain ⟨v1, hc, h⟩ := h
    refine ex_callV (as := [.int x3]) (st := []) (ci := 0) dX11_unfair_36 zmX0_countOverOthers zl_RX11_286 ziX0_countOverOthers zvX0_countOverOthers (by decide) (zDy_o (ly_d47 hL)) rfl (Nat.le_of_ble_eq_true rfl) (Nat.le_of_ble_eq_true rfl) hc ?_
    refine ex_step (pc' := 41) (ls' := [some (.ref 0), some (.int x1), some (.int x2), some (.int x3), some (.int v1)]) dX11_unfair_39 rfl ?_
    refine ex_step (pc' := 42) dX11_unfair_41 rfl ?_
    refine ex_step (pc' := 44) dX11_unfair_42 rfl ?_
    refine ex_max (by omega) dX11_unfair_44 zl_RX11_351 (Nat.le_of_ble_eq_true rfl) ?_
    refine ex_topi (fun y2 ey2 => ?_)
    have h := h y2 ey2
    refine ex_step (pc' := 48) (ls' := [some (.ref 0), some (.int y2), some (.int x2), some (.int x3), some (.int v1)]) dX11_unfair_47 rfl ?_
    refine ex_step (pc' := 49) dX11_unfair_48 rfl ?_
    refine ex_step (pc' := 51) dX11_unfair_49 rfl ?_
    refine ex_min (by omega) dX11_unfair_51 zl_RX11_356 (Nat.le_of_ble_eq_true rfl) ?_
    refine ex_topi (fun y3 ey3 => ?_)
    have h := h y3 ey3
    refine ex_step (pc' := 55) (ls' := [some (.ref 0), some (.int y2), some (.int y3), some (.int x3), some (.int v1)]) dX11_unfair_54 rfl ?_
    refine ex_step (pc' := 58) (ls' := [some (.ref 0), some (.int y2), some (.int y3), some (.int (x3 + 1)), some (.int v1)]) dX11_unfair_55 rfl ?_
    refine ex_step (pc' := 20) dX11_unfair_58 rfl ?_
    exact ex_less (ls' := [some (.ref 0), some (.int y2), some (.int y3), some (.int (x3 + 1)), none]) ⟨rfl, ⟨rfl, ⟨rfl, ⟨rfl, trivial⟩⟩⟩⟩ h
set_option maxHeartbeats 4000000 in
theorem BX11_tell_0 {d : Nat} {Z : zZ} {I : zI} {J : zJ} {o : zO} {t u : Nat} (x1 : Int32) (x2 : Int32) (x3 : Int32) (hL : zLY Z t u)  (h : (∃ (v1 : Int32), zE (d + 1) kX11_areTwo 0 [some (.ref 0), some (.int x1), some (.int x2)] [] Z I J (some (.int v1), Z, I, J) ∧ ((v1 = 0 → o = (some (.int (-1)), Z, I, J)) ∧ (¬ v1 = 0 → (∃ (v2 : Int32) (I3 : zI), zE (d + 1) kX9_add 0 [some (.ref 415), some (.int x1), some (.int x2), some (.int x3)] [] Z I J (some (.int v2), Z, I3, J) ∧ o = (some (.int v2), Z, I3, J)))))) : zE (d + 2) kX11_tell 0 [some (.ref 0), some (.int x1), some (.int x2), some (.int x3)] [] Z I J o := by
  refine ex_step (pc' := 1) dX11_tell_0 rfl ?_
  refine ex_step (pc' := 2) dX11_tell_1 rfl ?_
  refine ex_step (pc' := 3) dX11_tell_2 rfl ?_
  obtain ⟨v1, hc, h⟩ := h
  refine ex_callV (as := [.int x1, .int x2]) (st := []) (ci := 11) dX11_tell_3 zmX11_areTwo zl_RX11_209 ziX11_areTwo zvX11_areTwo (by decide) (ly_a0 hL) rfl (Nat.le_of_ble_eq_true rfl) (Nat.le_of_ble_eq_true rfl) hc ?_
  refine ex_if (pc' := 22) dX11_tell_6 (by decide) (fun c => ?_) (fun c => ?_)
  · have h := h.1 c
    refine ex_step (pc' := 23) (st' := [.int (-1)]) dX11_tell_22 rfl ?_
    rw [h]; exact ex_ret (v := some (.int (-1))) ⟨dX11_tell_23, _, rfl, rfl⟩
  · have h := h.2 c
    refine ex_step (pc' := 10) dX11_tell_9 rfl ?_
    refine ex_getr dX11_tell_10 wf_RX11_79 (ly_a0 hL) rfl (ly_r0_12 hL) ?_
    refine ex_step (pc' := 14) dX11_tell_13 rfl ?_
    refine ex_step (pc' := 15) dX11_tell_14 rfl ?_
    refine ex_step (pc' := 16) dX11_tell_15 rfl ?_
    obtain ⟨v2, I3, hc, h⟩ := h
    refine ex_callV (as := [.int x1, .int x2, .int x3]) (st := []) (ci := 9) dX11_tell_16 zmX9_add zl_RX11_359 ziX9_add zvX9_add (by decide) (ly_a415 hL) rfl (Nat.le_of_ble_eq_true rfl) (Nat.le_of_ble_eq_true rfl) hc ?_
    refine ex_step (pc' := 23) dX11_tell_19 rfl ?_
    rw [h]; exact ex_ret (v := some (.int v2)) ⟨dX11_tell_23, _, rfl, rfl⟩
set_option maxHeartbeats 4000000 in
theorem BX11_forget_0 {d : Nat} {Z : zZ} {I : zI} {J : zJ} {o : zO} {t u : Nat}  (hL : zLY Z t u)  (h : (∀ I1 : zI, I1 = zu I 415 0 0 → o = (some (.int (I 415 0)), Z, I1, J))) : zE d kX11_forget 0 [some (.ref 0), none] [] Z I J o := by
  refine ex_step (pc' := 1) dX11_forget_0 rfl ?_
  refine ex_getr dX11_forget_1 wf_RX11_79 (ly_a0 hL) rfl (ly_r0_12 hL) ?_
  refine ex_geti dX11_forget_4 wf_RX11_115 (ly_a415 hL) rfl ?_
  refine ex_step (pc' := 8) (ls' := [some (.ref 0), some (.int (I 415 0))]) dX11_forget_7 rfl ?_
  refine ex_step (pc' := 9) dX11_forget_8 rfl ?_
  refine ex_getr dX11_forget_9 wf_RX11_79 (ly_a0 hL) rfl (ly_r0_12 hL) ?_
  refine ex_step (pc' := 13) (st' := [.int 0, .ref 415]) dX11_forget_12 rfl ?_
  refine ex_putiN dX11_forget_13 (wp_RX11_115 _) (ly_a415 hL) rfl ⟨rfl, rfl⟩ (fun I1 eI1 => ?_)
  have h := h I1 eI1
  refine ex_step (pc' := 17) dX11_forget_16 rfl ?_
  rw [h]; exact ex_ret (v := some (.int (I 415 0))) ⟨dX11_forget_17, _, rfl, rfl⟩
set_option maxHeartbeats 4000000 in
theorem BX11_starts_0 {d : Nat} {Z : zZ} {I : zI} {J : zJ} {o : zO} {t u : Nat} (x1 : Int32) (x2 : Int32) (x3 : Int32) (hL : zLY Z t u)  (h : ((x1 < 0 → o = (some (.int (-1)), Z, I, J)) ∧ (¬ x1 < 0 → ((3 < x1 → o = (some (.int (-1)), Z, I, J)) ∧ (¬ 3 < x1 → ((x2 < 0 → o = (some (.int (-1)), Z, I, J)) ∧ (¬ x2 < 0 → ((40 < x2 → o = (some (.int (-1)), Z, I, J)) ∧ (¬ 40 < x2 → ((x3 < 0 → o = (some (.int (-1)), Z, I, J)) ∧ (¬ x3 < 0 → ((x3 ≤ (I 415 0) → (∃ (v1 : Int32) (I2 : zI), zE (d + 6) kX9_countRows 0 [some (.ref 415), some (.ref t), some (.ref 57), some (.int x1), some (.int x2), some (.int x3), none, none, none] [] Z I J (some (.int v1), Z, I2, J) ∧ o = (some (.int v1), Z, I2, J))) ∧ (¬ x3 ≤ (I 415 0) → o = (some (.int (-1)), Z, I, J)))))))))))))) : zE (d + 7) kX11_starts 0 [some (.ref 0), some (.int x1), some (.int x2), some (.int x3)] [] Z I J o := by
  refine ex_step (pc' := 1) dX11_starts_0 rfl ?_
  refine ex_if (pc' := 34) dX11_starts_1 (by decide) (fun c => ?_) (fun c => ?_)
  · have h := h.1 c
    refine ex_step (pc' := 35) (st' := [.int (-1)]) dX11_starts_34 rfl ?_
    rw [h]; exact ex_ret (v := some (.int (-1))) ⟨dX11_starts_35, _, rfl, rfl⟩
  · have h := h.2 c
    refine ex_step (pc' := 5) dX11_starts_4 rfl ?_
    refine ex_step (pc' := 6) (st' := [.int 3, .int x1]) dX11_starts_5 rfl ?_
    refine ex_icmp (pc' := 34) dX11_starts_6 (by decide) (fun c => ?_) (fun c => ?_)
    · have h := h.1 c
      refine ex_step (pc' := 35) (st' := [.int (-1)]) dX11_starts_34 rfl ?_
      rw [h]; exact ex_ret (v := some (.int (-1))) ⟨dX11_starts_35, _, rfl, rfl⟩
    · have h := h.2 c
      refine ex_step (pc' := 10) dX11_starts_9 rfl ?_
      refine ex_if (pc' := 34) dX11_starts_10 (by decide) (fun c => ?_) (fun c => ?_)
      · have h := h.1 c
        refine ex_step (pc' := 35) (st' := [.int (-1)]) dX11_starts_34 rfl ?_
        rw [h]; exact ex_ret (v := some (.int (-1))) ⟨dX11_starts_35, _, rfl, rfl⟩
      · have h := h.2 c
        refine ex_step (pc' := 14) dX11_starts_13 rfl ?_
        refine ex_step (pc' := 16) (st' := [.int 40, .int x2]) dX11_starts_14 rfl ?_
        refine ex_icmp (pc' := 34) dX11_starts_16 (by decide) (fun c => ?_) (fun c => ?_)
        · have h := h.1 c
          refine ex_step (pc' := 35) (st' := [.int (-1)]) dX11_starts_34 rfl ?_
          rw [h]; exact ex_ret (v := some (.int (-1))) ⟨dX11_starts_35, _, rfl, rfl⟩
        · have h := h.2 c
          refine ex_step (pc' := 20) dX11_starts_19 rfl ?_
          refine ex_if (pc' := 34) dX11_starts_20 (by decide) (fun c => ?_) (fun c => ?_)
          · have h := h.1 c
            refine ex_step (pc' := 35) (st' := [.int (-1)]) dX11_starts_34 rfl ?_
            rw [h]; exact ex_ret (v := some (.int (-1))) ⟨dX11_starts_35, _, rfl, rfl⟩
          · have h := h.2 c
            refine ex_step (pc' := 24) dX11_starts_23 rfl ?_
            refine ex_step (pc' := 25) dX11_starts_24 rfl ?_
            refine ex_getr dX11_starts_25 wf_RX11_79 (ly_a0 hL) rfl (ly_r0_12 hL) ?_
            refine ex_geti dX11_starts_28 wf_RX11_115 (ly_a415 hL) rfl ?_
            refine ex_icmp (pc' := 36) dX11_starts_31 (by decide) (fun c => ?_) (fun c => ?_)
            · have h := h.1 c
              refine ex_step (pc' := 37) dX11_starts_36 rfl ?_
              refine ex_getr dX11_starts_37 wf_RX11_79 (ly_a0 hL) rfl (ly_r0_12 hL) ?_
              refine ex_step (pc' := 41) dX11_starts_40 rfl ?_
              refine ex_getr dX11_starts_41 wf_RX11_27 (ly_a0 hL) rfl (ly_text hL) ?_
              refine ex_step (pc' := 45) dX11_starts_44 rfl ?_
              refine ex_getr dX11_starts_45 wf_RX11_38 (ly_a0 hL) rfl (ly_r0_6 hL) ?_
              refine ex_step (pc' := 49) dX11_starts_48 rfl ?_
              refine ex_step (pc' := 50) dX11_starts_49 rfl ?_
              refine ex_step (pc' := 51) dX11_starts_50 rfl ?_
              obtain ⟨v1, I2, hc, h⟩ := h
              refine ex_callV (as := [.ref t, .ref 57, .int x1, .int x2, .int x3]) (st := []) (ci := 9) dX11_starts_51 zmX9_countRows zl_RX11_363 ziX9_countRows zvX9_countRows (by decide) (ly_a415 hL) rfl (Nat.le_of_ble_eq_true rfl) (Nat.le_of_ble_eq_true rfl) hc ?_
              rw [h]; exact ex_ret (v := some (.int v1)) ⟨dX11_starts_54, _, rfl, rfl⟩
            · have h := h.2 c
              refine ex_step (pc' := 35) (st' := [.int (-1)]) dX11_starts_34 rfl ?_
              rw [h]; exact ex_ret (v := some (.int (-1))) ⟨dX11_starts_35, _, rfl, rfl⟩
set_option maxHeartbeats 4000000 in
theorem BX11_hold_0 {d : Nat} {Z : zZ} {I : zI} {J : zJ} {o : zO} {t u : Nat} (x1 : Int32) (hL : zLY Z t u)  (h : (∃ (v1 : Int32) (I2 : zI), zE (d + 3) kX3_keep 0 [some (.ref 67), some (.int x1), some (.ref 47), none] [] Z I J (some (.int v1), Z, I2, J) ∧ (narrow .boolean (.int v1) = .int v1 ∧ o = (some (.int v1), Z, I2, J)))) : zE (d + 4) kX11_hold 0 [some (.ref 0), some (.int x1)] [] Z I J o := by
  refine ex_step (pc' := 1) dX11_hold_0 rfl ?_
  refine ex_getr dX11_hold_1 wf_RX11_44 (ly_a0 hL) rfl (ly_r0_7 hL) ?_
  refine ex_step (pc' := 5) dX11_hold_4 rfl ?_
  refine ex_step (pc' := 6) dX11_hold_5 rfl ?_
  refine ex_getr dX11_hold_6 wf_RX11_34 (ly_a0 hL) rfl (ly_r0_5 hL) ?_
  obtain ⟨v1, I2, hc, h⟩ := h
  refine ex_callV (as := [.int x1, .ref 47]) (st := []) (ci := 3) dX11_hold_9 zmX3_keep zl_RX11_367 ziX3_keep zvX3_keep (by decide) (ly_a67 hL) rfl (Nat.le_of_ble_eq_true rfl) (Nat.le_of_ble_eq_true rfl) hc ?_
  obtain ⟨hn, h⟩ := h
  rw [h]; exact ex_ret (v := some (.int v1)) ⟨dX11_hold_12, _, rfl, hn⟩
set_option maxHeartbeats 4000000 in
theorem BX11_restore_0 {d : Nat} {Z : zZ} {I : zI} {J : zJ} {o : zO} {t u : Nat} (x1 : Int32) (hL : zLY Z t u)  (h : (∃ (v1 : Int32) (I2 : zI), zE (d + 3) kX3_goOnFrom 0 [some (.ref 67), some (.int x1), some (.ref 47), none] [] Z I J (some (.int v1), Z, I2, J) ∧ (narrow .boolean (.int v1) = .int v1 ∧ o = (some (.int v1), Z, I2, J)))) : zE (d + 4) kX11_restore 0 [some (.ref 0), some (.int x1)] [] Z I J o := by
  refine ex_step (pc' := 1) dX11_restore_0 rfl ?_
  refine ex_getr dX11_restore_1 wf_RX11_44 (ly_a0 hL) rfl (ly_r0_7 hL) ?_
  refine ex_step (pc' := 5) dX11_restore_4 rfl ?_
  refine ex_step (pc' := 6) dX11_restore_5 rfl ?_
  refine ex_getr dX11_restore_6 wf_RX11_34 (ly_a0 hL) rfl (ly_r0_5 hL) ?_
  obtain ⟨v1, I2, hc, h⟩ := h
  refine ex_callV (as := [.int x1, .ref 47]) (st := []) (ci := 3) dX11_restore_9 zmX3_goOnFrom zl_RX11_371 ziX3_goOnFrom zvX3_goOnFrom (by decide) (ly_a67 hL) rfl (Nat.le_of_ble_eq_true rfl) (Nat.le_of_ble_eq_true rfl) hc ?_
  obtain ⟨hn, h⟩ := h
  rw [h]; exact ex_ret (v := some (.int v1)) ⟨dX11_restore_12, _, rfl, hn⟩
set_option maxHeartbeats 4000000 in
theorem BX11_count_0 {d : Nat} {Z : zZ} {I : zI} {J : zJ} {o : zO} {t u : Nat} (x1 : Int32) (hL : zLY Z t u)  (h : ((x1.toInt < 0 ∨ 11 < x1.toInt → o = (some (.int (-1)), Z, I, J)) ∧ (x1 = 0 → o = (some (.int (I t 2)), Z, I, J)) ∧ (x1 = 1 → o = (some (.int (I t 0)), Z, I, J)) ∧ (x1 = 2 → o = (some (.int (I t 1)), Z, I, J)) ∧ (x1 = 3 → o = (some (.int (I 47 0)), Z, I, J)) ∧ (x1 = 4 → (∃ (v1 : Int32), zE (d + 1) kX0_countLying 0 [some (.ref 47), some (.ref t), some (.int (-1)), none, none] [] Z I J (some (.int v1), Z, I, J) ∧ o = (some (.int v1), Z, I, J))) ∧ (x1 = 5 → (∃ (v2 : Int32), zE (d + 1) kX0_lostBits 0 [some (.ref 47), some (.ref t), none, none] [] Z I J (some (.int v2), Z, I, J) ∧ (∃ (v3 : Int32), zE (d + 1) kJ6_bitCount_0f7a4 0 [some (.int v2)] [] Z I J (some (.int v3), Z, I, J) ∧ o = (some (.int v3), Z, I, J)))) ∧ (x1 = 6 → o = (some (.int (I t 3)), Z, I, J)) ∧ (x1 = 7 → (∃ (v4 : Int32), zE (d + 1) kX6_countErrands 0 [some (.ref t), none, none] [] Z I J (some (.int v4), Z, I, J) ∧ o = (some (.int v4), Z, I, J))) ∧ (x1 = 8 → o = (some (.int (I 0 1)), Z, I, J)) ∧ (x1 = 9 → o = (some (.int (I 67 0)), Z, I, J)) ∧ (x1 = 10 → o = (some (.int (I 415 0)), Z, I, J)) ∧ (x1 = 11 → (∃ (v5 : Int32), zE (d + 1) kX3_countHeld 0 [some (.ref 67), none, none] [] Z I J (some (.int v5), Z, I, J) ∧ o = (some (.int v5), Z, I, J))))) : zE (d + 2) kX11_count 0 [some (.ref 0), some (.int x1)] [] Z I J o := by
  refine ex_step (pc' := 1) dX11_count_0 rfl ?_
  refine ex_tab dX11_count_1 (fun c => ?_) (fun k off hk ho hx => ?_)
  · refine ⟨169, by decide, ?_⟩
    have h := h.1 c
    refine ex_step (pc' := 170) (st' := [.int (-1)]) dX11_count_169 rfl ?_
    rw [h]; exact ex_ret (v := some (.int (-1))) ⟨dX11_count_170, _, rfl, rfl⟩
  · have h := h.2
    match k, hk, ho, hx with
    | 0, hk, ho, hx =>
      cases ho
      refine ⟨64, by decide, ?_⟩
      have h := h.1 (Int32.toInt_inj.mp (hx.trans (by decide)))
      refine ex_step (pc' := 65) dX11_count_64 rfl ?_
      refine ex_getr dX11_count_65 wf_RX11_27 (ly_a0 hL) rfl (ly_text hL) ?_
      refine ex_geti dX11_count_68 wf_RX11_283 (zTx_o (ly_tx hL)) rfl ?_
      rw [h]; exact ex_ret (v := some (.int (I t 2))) ⟨dX11_count_71, _, rfl, rfl⟩
    | 1, hk, ho, hx =>
      cases ho
      refine ⟨72, by decide, ?_⟩
      have h := h.2.1 (Int32.toInt_inj.mp (hx.trans (by decide)))
      refine ex_step (pc' := 73) dX11_count_72 rfl ?_
      refine ex_getr dX11_count_73 wf_RX11_27 (ly_a0 hL) rfl (ly_text hL) ?_
      refine ex_geti dX11_count_76 wf_RX11_374 (zTx_o (ly_tx hL)) rfl ?_
      rw [h]; exact ex_ret (v := some (.int (I t 0))) ⟨dX11_count_79, _, rfl, rfl⟩
    | 2, hk, ho, hx =>
      cases ho
      refine ⟨80, by decide, ?_⟩
      have h := h.2.2.1 (Int32.toInt_inj.mp (hx.trans (by decide)))
      refine ex_step (pc' := 81) dX11_count_80 rfl ?_
      refine ex_getr dX11_count_81 wf_RX11_27 (ly_a0 hL) rfl (ly_text hL) ?_
      refine ex_geti dX11_count_84 wf_RX11_377 (zTx_o (ly_tx hL)) rfl ?_
      rw [h]; exact ex_ret (v := some (.int (I t 1))) ⟨dX11_count_87, _, rfl, rfl⟩
    | 3, hk, ho, hx =>
      cases ho
      refine ⟨88, by decide, ?_⟩
      have h := h.2.2.2.1 (Int32.toInt_inj.mp (hx.trans (by decide)))
      refine ex_step (pc' := 89) dX11_count_88 rfl ?_
      refine ex_getr dX11_count_89 wf_RX11_34 (ly_a0 hL) rfl (ly_r0_5 hL) ?_
      refine ex_geti dX11_count_92 wf_RX11_152 (zDy_o (ly_d47 hL)) rfl ?_
      rw [h]; exact ex_ret (v := some (.int (I 47 0))) ⟨dX11_count_95, _, rfl, rfl⟩
    | 4, hk, ho, hx =>
      cases ho
      refine ⟨96, by decide, ?_⟩
      have h := h.2.2.2.2.1 (Int32.toInt_inj.mp (hx.trans (by decide)))
      refine ex_step (pc' := 97) dX11_count_96 rfl ?_
      refine ex_getr dX11_count_97 wf_RX11_34 (ly_a0 hL) rfl (ly_r0_5 hL) ?_
      refine ex_step (pc' := 101) dX11_count_100 rfl ?_
      refine ex_getr dX11_count_101 wf_RX11_27 (ly_a0 hL) rfl (ly_text hL) ?_
      refine ex_step (pc' := 105) (st' := [.int (-1), .ref t, .ref 47]) dX11_count_104 rfl ?_
      obtain ⟨v1, hc, h⟩ := h
      refine ex_callV (as := [.ref t, .int (-1)]) (st := []) (ci := 0) dX11_count_105 zmX0_countLying zl_RX11_244 ziX0_countLying zvX0_countLying (by decide) (zDy_o (ly_d47 hL)) rfl (Nat.le_of_ble_eq_true rfl) (Nat.le_of_ble_eq_true rfl) hc ?_
      rw [h]; exact ex_ret (v := some (.int v1)) ⟨dX11_count_108, _, rfl, rfl⟩
    | 5, hk, ho, hx =>
      cases ho
      refine ⟨109, by decide, ?_⟩
      have h := h.2.2.2.2.2.1 (Int32.toInt_inj.mp (hx.trans (by decide)))
      refine ex_step (pc' := 110) dX11_count_109 rfl ?_
      refine ex_getr dX11_count_110 wf_RX11_34 (ly_a0 hL) rfl (ly_r0_5 hL) ?_
      refine ex_step (pc' := 114) dX11_count_113 rfl ?_
      refine ex_getr dX11_count_114 wf_RX11_27 (ly_a0 hL) rfl (ly_text hL) ?_
      obtain ⟨v2, hc, h⟩ := h
      refine ex_callV (as := [.ref t]) (st := []) (ci := 0) dX11_count_117 zmX0_lostBits zl_RX11_316 ziX0_lostBits zvX0_lostBits (by decide) (zDy_o (ly_d47 hL)) rfl (Nat.le_of_ble_eq_true rfl) (Nat.le_of_ble_eq_true rfl) hc ?_
      obtain ⟨v3, hc, h⟩ := h
      refine ex_callS (as := [.int v2]) (st := []) dX11_count_120 zmJ6_bitCount_0f7a4 zl_RX11_232 zsJ6_bitCount_0f7a4 rfl (Nat.le_of_ble_eq_true rfl) (Nat.le_of_ble_eq_true rfl) hc ?_
      rw [h]; exact ex_ret (v := some (.int v3)) ⟨dX11_count_123, _, rfl, rfl⟩
    | 6, hk, ho, hx =>
      cases ho
      refine ⟨124, by decide, ?_⟩
      have h := h.2.2.2.2.2.2.1 (Int32.toInt_inj.mp (hx.trans (by decide)))
      refine ex_step (pc' := 125) dX11_count_124 rfl ?_
      refine ex_getr dX11_count_125 wf_RX11_27 (ly_a0 hL) rfl (ly_text hL) ?_
      refine ex_geti dX11_count_128 wf_RX11_264 (zTx_o (ly_tx hL)) rfl ?_
      rw [h]; exact ex_ret (v := some (.int (I t 3))) ⟨dX11_count_131, _, rfl, rfl⟩
    | 7, hk, ho, hx =>
      cases ho
      refine ⟨132, by decide, ?_⟩
      have h := h.2.2.2.2.2.2.2.1 (Int32.toInt_inj.mp (hx.trans (by decide)))
      refine ex_step (pc' := 133) dX11_count_132 rfl ?_
      refine ex_getr dX11_count_133 wf_RX11_27 (ly_a0 hL) rfl (ly_text hL) ?_
      obtain ⟨v4, hc, h⟩ := h
      refine ex_callV (as := []) (st := []) (ci := 6) dX11_count_136 zmX6_countErrands zl_RX11_380 ziX6_countErrands zvX6_countErrands (by decide) (zTx_o (ly_tx hL)) rfl (Nat.le_of_ble_eq_true rfl) (Nat.le_of_ble_eq_true rfl) hc ?_
      rw [h]; exact ex_ret (v := some (.int v4)) ⟨dX11_count_139, _, rfl, rfl⟩
    | 8, hk, ho, hx =>
      cases ho
      refine ⟨140, by decide, ?_⟩
      have h := h.2.2.2.2.2.2.2.2.1 (Int32.toInt_inj.mp (hx.trans (by decide)))
      refine ex_step (pc' := 141) dX11_count_140 rfl ?_
      refine ex_geti dX11_count_141 wf_RX11_87 (ly_a0 hL) rfl ?_
      rw [h]; exact ex_ret (v := some (.int (I 0 1))) ⟨dX11_count_144, _, rfl, rfl⟩
    | 9, hk, ho, hx =>
      cases ho
      refine ⟨145, by decide, ?_⟩
      have h := h.2.2.2.2.2.2.2.2.2.1 (Int32.toInt_inj.mp (hx.trans (by decide)))
      refine ex_step (pc' := 146) dX11_count_145 rfl ?_
      refine ex_getr dX11_count_146 wf_RX11_44 (ly_a0 hL) rfl (ly_r0_7 hL) ?_
      refine ex_geti dX11_count_149 wf_RX11_383 (ly_a67 hL) rfl ?_
      rw [h]; exact ex_ret (v := some (.int (I 67 0))) ⟨dX11_count_152, _, rfl, rfl⟩
    | 10, hk, ho, hx =>
      cases ho
      refine ⟨153, by decide, ?_⟩
      have h := h.2.2.2.2.2.2.2.2.2.2.1 (Int32.toInt_inj.mp (hx.trans (by decide)))
      refine ex_step (pc' := 154) dX11_count_153 rfl ?_
      refine ex_getr dX11_count_154 wf_RX11_79 (ly_a0 hL) rfl (ly_r0_12 hL) ?_
      refine ex_geti dX11_count_157 wf_RX11_115 (ly_a415 hL) rfl ?_
      rw [h]; exact ex_ret (v := some (.int (I 415 0))) ⟨dX11_count_160, _, rfl, rfl⟩
    | 11, hk, ho, hx =>
      cases ho
      refine ⟨161, by decide, ?_⟩
      have h := h.2.2.2.2.2.2.2.2.2.2.2 (Int32.toInt_inj.mp (hx.trans (by decide)))
      refine ex_step (pc' := 162) dX11_count_161 rfl ?_
      refine ex_getr dX11_count_162 wf_RX11_44 (ly_a0 hL) rfl (ly_r0_7 hL) ?_
      obtain ⟨v5, hc, h⟩ := h
      refine ex_callV (as := []) (st := []) (ci := 3) dX11_count_165 zmX3_countHeld zl_RX11_384 ziX3_countHeld zvX3_countHeld (by decide) (ly_a67 hL) rfl (Nat.le_of_ble_eq_true rfl) (Nat.le_of_ble_eq_true rfl) hc ?_
      rw [h]; exact ex_ret (v := some (.int v5)) ⟨dX11_count_168, _, rfl, rfl⟩
    | (k + 12), hk, ho, hx => exact absurd hk (by simp)
set_option maxHeartbeats 4000000 in
theorem BX11_isMan_0 {d : Nat} {Z : zZ} {I : zI} {J : zJ} {o : zO} {t u : Nat} (x1 : Int32) (hL : zLY Z t u)  (h : ((x1 < 0 → o = (some (.int 0), Z, I, J)) ∧ (¬ x1 < 0 → (((I t 2) ≤ x1 → o = (some (.int 0), Z, I, J)) ∧ (¬ (I t 2) ≤ x1 → o = (some (.int 1), Z, I, J)))))) : zE d kX11_isMan 0 [some (.ref 0), some (.int x1)] [] Z I J o := by
  refine ex_step (pc' := 1) dX11_isMan_0 rfl ?_
  refine ex_if (pc' := 19) dX11_isMan_1 (by decide) (fun c => ?_) (fun c => ?_)
  · have h := h.1 c
    refine ex_step (pc' := 20) (st' := [.int 0]) dX11_isMan_19 rfl ?_
    rw [h]; exact ex_ret (v := some (.int 0)) ⟨dX11_isMan_20, _, rfl, rfl⟩
  · have h := h.2 c
    refine ex_step (pc' := 5) dX11_isMan_4 rfl ?_
    refine ex_step (pc' := 6) dX11_isMan_5 rfl ?_
    refine ex_getr dX11_isMan_6 wf_RX11_27 (ly_a0 hL) rfl (ly_text hL) ?_
    refine ex_geti dX11_isMan_9 wf_RX11_283 (zTx_o (ly_tx hL)) rfl ?_
    refine ex_icmp (pc' := 19) dX11_isMan_12 (by decide) (fun c => ?_) (fun c => ?_)
    · have h := h.1 c
      refine ex_step (pc' := 20) (st' := [.int 0]) dX11_isMan_19 rfl ?_
      rw [h]; exact ex_ret (v := some (.int 0)) ⟨dX11_isMan_20, _, rfl, rfl⟩
    · have h := h.2 c
      refine ex_step (pc' := 16) (st' := [.int 1]) dX11_isMan_15 rfl ?_
      refine ex_step (pc' := 20) dX11_isMan_16 rfl ?_
      rw [h]; exact ex_ret (v := some (.int 1)) ⟨dX11_isMan_20, _, rfl, rfl⟩
set_option maxHeartbeats 4000000 in
theorem BX11_areTwo_0 {d : Nat} {Z : zZ} {I : zI} {J : zJ} {o : zO} {t u : Nat} (x1 : Int32) (x2 : Int32) (hL : zLY Z t u)  (h : (∃ (v1 : Int32), zE d kX11_isMan 0 [some (.ref 0), some (.int x1)] [] Z I J (some (.int v1), Z, I, J) ∧ ((v1 = 0 → o = (some (.int 0), Z, I, J)) ∧ (¬ v1 = 0 → (∃ (v2 : Int32), zE d kX11_isMan 0 [some (.ref 0), some (.int x2)] [] Z I J (some (.int v2), Z, I, J) ∧ ((v2 = 0 → o = (some (.int 0), Z, I, J)) ∧ (¬ v2 = 0 → ((x1 = x2 → o = (some (.int 0), Z, I, J)) ∧ (¬ x1 = x2 → o = (some (.int 1), Z, I, J)))))))))) : zE (d + 1) kX11_areTwo 0 [some (.ref 0), some (.int x1), some (.int x2)] [] Z I J o := by
  refine ex_step (pc' := 1) dX11_areTwo_0 rfl ?_
  refine ex_step (pc' := 2) dX11_areTwo_1 rfl ?_
  obtain ⟨v1, hc, h⟩ := h
  refine ex_callV (as := [.int x1]) (st := []) (ci := 11) dX11_areTwo_2 zmX11_isMan zl_RX11_118 ziX11_isMan zvX11_isMan (by decide) (ly_a0 hL) rfl (Nat.le_of_ble_eq_true rfl) (Nat.le_of_ble_eq_true rfl) hc ?_
  refine ex_if (pc' := 25) dX11_areTwo_5 (by decide) (fun c => ?_) (fun c => ?_)
  · have h := h.1 c
    refine ex_step (pc' := 26) (st' := [.int 0]) dX11_areTwo_25 rfl ?_
    rw [h]; exact ex_ret (v := some (.int 0)) ⟨dX11_areTwo_26, _, rfl, rfl⟩
  · have h := h.2 c
    refine ex_step (pc' := 9) dX11_areTwo_8 rfl ?_
    refine ex_step (pc' := 10) dX11_areTwo_9 rfl ?_
    obtain ⟨v2, hc, h⟩ := h
    refine ex_callV (as := [.int x2]) (st := []) (ci := 11) dX11_areTwo_10 zmX11_isMan zl_RX11_118 ziX11_isMan zvX11_isMan (by decide) (ly_a0 hL) rfl (Nat.le_of_ble_eq_true rfl) (Nat.le_of_ble_eq_true rfl) hc ?_
    refine ex_if (pc' := 25) dX11_areTwo_13 (by decide) (fun c => ?_) (fun c => ?_)
    · have h := h.1 c
      refine ex_step (pc' := 26) (st' := [.int 0]) dX11_areTwo_25 rfl ?_
      rw [h]; exact ex_ret (v := some (.int 0)) ⟨dX11_areTwo_26, _, rfl, rfl⟩
    · have h := h.2 c
      refine ex_step (pc' := 17) dX11_areTwo_16 rfl ?_
      refine ex_step (pc' := 18) dX11_areTwo_17 rfl ?_
      refine ex_icmp (pc' := 25) dX11_areTwo_18 (by decide) (fun c => ?_) (fun c => ?_)
      · have h := h.1 c
        refine ex_step (pc' := 26) (st' := [.int 0]) dX11_areTwo_25 rfl ?_
        rw [h]; exact ex_ret (v := some (.int 0)) ⟨dX11_areTwo_26, _, rfl, rfl⟩
      · have h := h.2 c
        refine ex_step (pc' := 22) (st' := [.int 1]) dX11_areTwo_21 rfl ?_
        refine ex_step (pc' := 26) dX11_areTwo_22 rfl ?_
        rw [h]; exact ex_ret (v := some (.int 1)) ⟨dX11_areTwo_26, _, rfl, rfl⟩
set_option maxHeartbeats 4000000 in
theorem BX11_copyRow_0 {d : Nat} {Z : zZ} {I : zI} {J : zJ} {o : zO} {a0 n0 : Nat} {a1 n1 : Nat} (ha0 : zis Z a0 1 n0) (ha1 : zis Z a1 1 n1) (h : (¬ (0 : Int32) < 0 ∧ ¬ (0 : Int32) < 0 ∧ ¬ ((if (Int32.ofNat n1) < (Int32.ofNat n0) then (Int32.ofNat n1) else (Int32.ofNat n0)) : Int32) < 0 ∧ Int32.toNatClampNeg 0 + Int32.toNatClampNeg (if (Int32.ofNat n1) < (Int32.ofNat n0) then (Int32.ofNat n1) else (Int32.ofNat n0)) ≤ n0 ∧ Int32.toNatClampNeg 0 + Int32.toNatClampNeg (if (Int32.ofNat n1) < (Int32.ofNat n0) then (Int32.ofNat n1) else (Int32.ofNat n0)) ≤ n1 ∧ (∀ I1 : zI, I1 = zrow I a1 (zcpy (I a0) (I a1) (Int32.toNatClampNeg 0) (Int32.toNatClampNeg 0) (Int32.toNatClampNeg (if (Int32.ofNat n1) < (Int32.ofNat n0) then (Int32.ofNat n1) else (Int32.ofNat n0)))) → o = (none, Z, I1, J)))) : zE (d + 1) kX11_copyRow 0 [some (.ref a0), some (.ref a1)] [] Z I J o := by
  refine ex_step (pc' := 1) dX11_copyRow_0 rfl ?_
  refine ex_step (pc' := 2) (st' := [.int 0, .ref a0]) dX11_copyRow_1 rfl ?_
  refine ex_step (pc' := 3) dX11_copyRow_2 rfl ?_
  refine ex_step (pc' := 4) (st' := [.int 0, .ref a1, .int 0, .ref a0]) dX11_copyRow_3 rfl ?_
  refine ex_step (pc' := 5) dX11_copyRow_4 rfl ?_
  refine ex_alen dX11_copyRow_5 (Or.inl ⟨ha0, by decide, by decide⟩) ?_
  refine ex_step (pc' := 7) dX11_copyRow_6 rfl ?_
  refine ex_alen dX11_copyRow_7 (Or.inl ⟨ha1, by decide, by decide⟩) ?_
  refine ex_min (by omega) dX11_copyRow_8 zl_RX11_356 (Nat.le_of_ble_eq_true rfl) ?_
  obtain ⟨g1, g2, g3, g4, g5, h⟩ := h
  refine ex_copyN (by omega) dX11_copyRow_11 zl_RX11_387 ha0 ha1 g1 g2 g3 g4 g5 (Nat.le_of_ble_eq_true rfl) (fun I1 eI1 => ?_)
  have h := h I1 eI1
  rw [h]; exact ex_ret (v := none) ⟨dX11_copyRow_14, rfl⟩
set_option maxHeartbeats 4000000 in
theorem BX11_apart_0 {d : Nat} {Z : zZ} {I : zI} {J : zJ} {o : zO} (x0 : Int32) (x1 : Int32) (x2 : Int32) (x3 : Int32)  (h : o = (some (.int ((if 0 ≤ (x0 - x2) then (x0 - x2) else 0 - (x0 - x2)) + (if 0 ≤ (x1 - x3) then (x1 - x3) else 0 - (x1 - x3)))), Z, I, J)) : zE (d + 1) kX11_apart 0 [some (.int x0), some (.int x1), some (.int x2), some (.int x3)] [] Z I J o := by
  refine ex_step (pc' := 1) dX11_apart_0 rfl ?_
  refine ex_step (pc' := 2) dX11_apart_1 rfl ?_
  refine ex_step (pc' := 3) dX11_apart_2 rfl ?_
  refine ex_abs (by omega) dX11_apart_3 zl_RX11_393 (Nat.le_of_ble_eq_true rfl) ?_
  refine ex_step (pc' := 7) dX11_apart_6 rfl ?_
  refine ex_step (pc' := 8) dX11_apart_7 rfl ?_
  refine ex_step (pc' := 9) dX11_apart_8 rfl ?_
  refine ex_abs (by omega) dX11_apart_9 zl_RX11_393 (Nat.le_of_ble_eq_true rfl) ?_
  refine ex_step (pc' := 13) dX11_apart_12 rfl ?_
  rw [h]; exact ex_ret (v := some (.int ((if 0 ≤ (x0 - x2) then (x0 - x2) else 0 - (x0 - x2)) + (if 0 ≤ (x1 - x3) then (x1 - x3) else 0 - (x1 - x3))))) ⟨dX11_apart_13, _, rfl, rfl⟩
set_option maxHeartbeats 4000000 in
theorem BX11_lot_0 {d : Nat} {Z : zZ} {I : zI} {J : zJ} {o : zO} (x0 : Int32) (x1 : Int32) (x2 : Int32)  (h : (∀ y1 : Int32, y1 = (((zstir (zstir x1 28) x2).toUInt32 >>> (Int32.toUInt32 1 &&& Int32.toUInt32 31)).toInt32) → ((x0 ≤ 0 → o = (some (.int 0), Z, I, J)) ∧ (¬ x0 ≤ 0 → (¬ x0 = 0 ∧ o = (some (.int (y1 - y1 / x0 * x0)), Z, I, J)))))) : zE (d + 1) kX11_lot 0 [some (.int x0), some (.int x1), some (.int x2), none] [] Z I J o := by
  refine ex_step (pc' := 1) dX11_lot_0 rfl ?_
  refine ex_step (pc' := 3) (st' := [.int 28, .int x1]) dX11_lot_1 rfl ?_
  refine ex_callS (as := [.int x1, .int 28]) (st := []) dX11_lot_3 zmX11_stir zl_RX11_396 zsX11_stir rfl (Nat.le_of_ble_eq_true rfl) (Nat.le_of_ble_eq_true rfl) S_stir ?_
  refine ex_step (pc' := 7) dX11_lot_6 rfl ?_
  refine ex_callS (as := [.int (zstir x1 28), .int x2]) (st := []) dX11_lot_7 zmX11_stir zl_RX11_396 zsX11_stir rfl (Nat.le_of_ble_eq_true rfl) (Nat.le_of_ble_eq_true rfl) S_stir ?_
  refine ex_step (pc' := 11) (st' := [.int 1, .int (zstir (zstir x1 28) x2)]) dX11_lot_10 rfl ?_
  refine ex_step (pc' := 12) (st' := [.int (((zstir (zstir x1 28) x2).toUInt32 >>> (Int32.toUInt32 1 &&& Int32.toUInt32 31)).toInt32)]) dX11_lot_11 rfl ?_
  refine ex_topi (fun y1 ey1 => ?_)
  have h := h y1 ey1
  refine ex_step (pc' := 13) (ls' := [some (.int x0), some (.int x1), some (.int x2), some (.int y1)]) dX11_lot_12 rfl ?_
  refine ex_step (pc' := 14) dX11_lot_13 rfl ?_
  refine ex_if (pc' := 23) dX11_lot_14 (by decide) (fun c => ?_) (fun c => ?_)
  · have h := h.1 c
    refine ex_step (pc' := 24) (st' := [.int 0]) dX11_lot_23 rfl ?_
    rw [h]; exact ex_ret (v := some (.int 0)) ⟨dX11_lot_24, _, rfl, rfl⟩
  · have h := h.2 c
    refine ex_step (pc' := 18) dX11_lot_17 rfl ?_
    refine ex_step (pc' := 19) dX11_lot_18 rfl ?_
    obtain ⟨hz, h⟩ := h
    refine ex_rem dX11_lot_19 hz ?_
    refine ex_step (pc' := 24) dX11_lot_20 rfl ?_
    rw [h]; exact ex_ret (v := some (.int (y1 - y1 / x0 * x0))) ⟨dX11_lot_24, _, rfl, rfl⟩
set_option maxHeartbeats 4000000 in
theorem BX0_begin_0 {d : Nat} {Z : zZ} {I : zI} {J : zJ} {o : zO} {d0 : Nat} {t1 : Nat} (hd0 : zDy Z d0) (ht1 : zTx Z t1) (h : (∀ I1 : zI, I1 = zu I d0 0 0 → (∀ I2 : zI, I2 = zu I1 d0 10 0 → (∃ (I3 : zI), zE (d + 1) kX11_copyRow 0 [some (.ref (t1 + 6)), some (.ref (d0 + 1))] [] Z I2 J (none, Z, I3, J) ∧ (∃ (I4 : zI), zE (d + 1) kX11_copyRow 0 [some (.ref (t1 + 7)), some (.ref (d0 + 2))] [] Z I3 J (none, Z, I4, J) ∧ (∃ (I5 : zI), zE (d + 1) kJ7_fill_53178 0 [some (.ref (d0 + 3)), some (.int 0), none, none] [] Z I4 J (none, Z, I5, J) ∧ (∃ (I6 : zI), zE (d + 1) kJ7_fill_53178 0 [some (.ref (d0 + 4)), some (.int 0), none, none] [] Z I5 J (none, Z, I6, J) ∧ (∃ (I7 : zI), zE (d + 1) kJ7_fill_53178 0 [some (.ref (d0 + 9)), some (.int 0), none, none] [] Z I6 J (none, Z, I7, J) ∧ o = (none, Z, I7, J))))))))) : zE (d + 2) kX0_begin 0 [some (.ref d0), some (.ref t1)] [] Z I J o := by
  refine ex_step (pc' := 1) dX0_begin_0 rfl ?_
  refine ex_step (pc' := 2) (st' := [.int 0, .ref d0]) dX0_begin_1 rfl ?_
  refine ex_putiN dX0_begin_2 (wp_RX0_39 _) (zDy_o hd0) rfl ⟨rfl, rfl⟩ (fun I1 eI1 => ?_)
  have h := h I1 eI1
  refine ex_step (pc' := 6) dX0_begin_5 rfl ?_
  refine ex_step (pc' := 7) (st' := [.int 0, .ref d0]) dX0_begin_6 rfl ?_
  refine ex_putiN dX0_begin_7 (wp_RX0_43 _) (zDy_o hd0) rfl ⟨rfl, rfl⟩ (fun I2 eI2 => ?_)
  have h := h I2 eI2
  refine ex_step (pc' := 11) dX0_begin_10 rfl ?_
  refine ex_getr dX0_begin_11 wf_RX0_46 (zTx_o ht1) rfl (zTx_r7 ht1) ?_
  refine ex_step (pc' := 15) dX0_begin_14 rfl ?_
  refine ex_getr dX0_begin_15 wf_RX0_9 (zDy_o hd0) rfl (zDy_r1 hd0) ?_
  obtain ⟨I3, hc, h⟩ := h
  refine ex_callS (as := [.ref (t1 + 6), .ref (d0 + 1)]) (st := []) dX0_begin_18 zmX11_copyRow zl_RX0_51 zsX11_copyRow rfl (Nat.le_of_ble_eq_true rfl) (Nat.le_of_ble_eq_true rfl) hc ?_
  refine ex_step (pc' := 22) dX0_begin_21 rfl ?_
  refine ex_getr dX0_begin_22 wf_RX0_55 (zTx_o ht1) rfl (zTx_r8 ht1) ?_
  refine ex_step (pc' := 26) dX0_begin_25 rfl ?_
  refine ex_getr dX0_begin_26 wf_RX0_15 (zDy_o hd0) rfl (zDy_r2 hd0) ?_
  obtain ⟨I4, hc, h⟩ := h
  refine ex_callS (as := [.ref (t1 + 7), .ref (d0 + 2)]) (st := []) dX0_begin_29 zmX11_copyRow zl_RX0_51 zsX11_copyRow rfl (Nat.le_of_ble_eq_true rfl) (Nat.le_of_ble_eq_true rfl) hc ?_
  refine ex_step (pc' := 33) dX0_begin_32 rfl ?_
  refine ex_getr dX0_begin_33 wf_RX0_18 (zDy_o hd0) rfl (zDy_r3 hd0) ?_
  refine ex_step (pc' := 37) (st' := [.int 0, .ref (d0 + 3)]) dX0_begin_36 rfl ?_
  obtain ⟨I5, hc, h⟩ := h
  refine ex_callS (as := [.ref (d0 + 3), .int 0]) (st := []) dX0_begin_37 zmJ7_fill_53178 zl_RX0_58 zsJ7_fill_53178 rfl (Nat.le_of_ble_eq_true rfl) (Nat.le_of_ble_eq_true rfl) hc ?_
  refine ex_step (pc' := 41) dX0_begin_40 rfl ?_
  refine ex_getr dX0_begin_41 wf_RX0_21 (zDy_o hd0) rfl (zDy_r4 hd0) ?_
  refine ex_step (pc' := 45) (st' := [.int 0, .ref (d0 + 4)]) dX0_begin_44 rfl ?_
  obtain ⟨I6, hc, h⟩ := h
  refine ex_callS (as := [.ref (d0 + 4), .int 0]) (st := []) dX0_begin_45 zmJ7_fill_53178 zl_RX0_58 zsJ7_fill_53178 rfl (Nat.le_of_ble_eq_true rfl) (Nat.le_of_ble_eq_true rfl) hc ?_
  refine ex_step (pc' := 49) dX0_begin_48 rfl ?_
  refine ex_getr dX0_begin_49 wf_RX0_36 (zDy_o hd0) rfl (zDy_r9 hd0) ?_
  refine ex_step (pc' := 53) (st' := [.int 0, .ref (d0 + 9)]) dX0_begin_52 rfl ?_
  obtain ⟨I7, hc, h⟩ := h
  refine ex_callS (as := [.ref (d0 + 9), .int 0]) (st := []) dX0_begin_53 zmJ7_fill_53178 zl_RX0_58 zsJ7_fill_53178 rfl (Nat.le_of_ble_eq_true rfl) (Nat.le_of_ble_eq_true rfl) hc ?_
  rw [h]; exact ex_ret (v := none) ⟨dX0_begin_56, rfl⟩
set_option maxHeartbeats 4000000 in
theorem BX0_copy_0 {d : Nat} {Z : zZ} {I : zI} {J : zJ} {o : zO} {d0 : Nat} {d1 : Nat} (hd0 : zDy Z d0) (hd1 : zDy Z d1) (h : (∀ I1 : zI, I1 = zu I d0 0 (I d1 0) → (∀ I2 : zI, I2 = zu I1 d0 10 (I1 d1 10) → (∃ (I3 : zI), zE (d + 1) kX11_copyRow 0 [some (.ref (d1 + 1)), some (.ref (d0 + 1))] [] Z I2 J (none, Z, I3, J) ∧ (∃ (I4 : zI), zE (d + 1) kX11_copyRow 0 [some (.ref (d1 + 2)), some (.ref (d0 + 2))] [] Z I3 J (none, Z, I4, J) ∧ (∃ (I5 : zI), zE (d + 1) kX11_copyRow 0 [some (.ref (d1 + 3)), some (.ref (d0 + 3))] [] Z I4 J (none, Z, I5, J) ∧ (∃ (I6 : zI), zE (d + 1) kX11_copyRow 0 [some (.ref (d1 + 4)), some (.ref (d0 + 4))] [] Z I5 J (none, Z, I6, J) ∧ (∃ (I7 : zI), zE (d + 1) kX11_copyRow 0 [some (.ref (d1 + 5)), some (.ref (d0 + 5))] [] Z I6 J (none, Z, I7, J) ∧ (∃ (I8 : zI), zE (d + 1) kX11_copyRow 0 [some (.ref (d1 + 6)), some (.ref (d0 + 6))] [] Z I7 J (none, Z, I8, J) ∧ (∃ (I9 : zI), zE (d + 1) kX11_copyRow 0 [some (.ref (d1 + 7)), some (.ref (d0 + 7))] [] Z I8 J (none, Z, I9, J) ∧ (∃ (I10 : zI), zE (d + 1) kX11_copyRow 0 [some (.ref (d1 + 8)), some (.ref (d0 + 8))] [] Z I9 J (none, Z, I10, J) ∧ (∃ (I11 : zI), zE (d + 1) kX11_copyRow 0 [some (.ref (d1 + 9)), some (.ref (d0 + 9))] [] Z I10 J (none, Z, I11, J) ∧ o = (none, Z, I11, J))))))))))))) : zE (d + 2) kX0_copy 0 [some (.ref d0), some (.ref d1)] [] Z I J o := by
  refine ex_step (pc' := 1) dX0_copy_0 rfl ?_
  refine ex_step (pc' := 2) dX0_copy_1 rfl ?_
  refine ex_geti dX0_copy_2 wf_RX0_39 (zDy_o hd1) rfl ?_
  refine ex_putiN dX0_copy_5 (wp_RX0_39 _) (zDy_o hd0) rfl ⟨rfl, rfl⟩ (fun I1 eI1 => ?_)
  have h := h I1 eI1
  refine ex_step (pc' := 9) dX0_copy_8 rfl ?_
  refine ex_step (pc' := 10) dX0_copy_9 rfl ?_
  refine ex_geti dX0_copy_10 wf_RX0_43 (zDy_o hd1) rfl ?_
  refine ex_putiN dX0_copy_13 (wp_RX0_43 _) (zDy_o hd0) rfl ⟨rfl, rfl⟩ (fun I2 eI2 => ?_)
  have h := h I2 eI2
  refine ex_step (pc' := 17) dX0_copy_16 rfl ?_
  refine ex_getr dX0_copy_17 wf_RX0_9 (zDy_o hd1) rfl (zDy_r1 hd1) ?_
  refine ex_step (pc' := 21) dX0_copy_20 rfl ?_
  refine ex_getr dX0_copy_21 wf_RX0_9 (zDy_o hd0) rfl (zDy_r1 hd0) ?_
  obtain ⟨I3, hc, h⟩ := h
  refine ex_callS (as := [.ref (d1 + 1), .ref (d0 + 1)]) (st := []) dX0_copy_24 zmX11_copyRow zl_RX0_51 zsX11_copyRow rfl (Nat.le_of_ble_eq_true rfl) (Nat.le_of_ble_eq_true rfl) hc ?_
  refine ex_step (pc' := 28) dX0_copy_27 rfl ?_
  refine ex_getr dX0_copy_28 wf_RX0_15 (zDy_o hd1) rfl (zDy_r2 hd1) ?_
  refine ex_step (pc' := 32) dX0_copy_31 rfl ?_
  refine ex_getr dX0_copy_32 wf_RX0_15 (zDy_o hd0) rfl (zDy_r2 hd0) ?_
  obtain ⟨I4, hc, h⟩ := h
  refine ex_callS (as := [.ref (d1 + 2), .ref (d0 + 2)]) (st := []) dX0_copy_35 zmX11_copyRow zl_RX0_51 zsX11_copyRow rfl (Nat.le_of_ble_eq_true rfl) (Nat.le_of_ble_eq_true rfl) hc ?_
  refine ex_step (pc' := 39) dX0_copy_38 rfl ?_
  refine ex_getr dX0_copy_39 wf_RX0_18 (zDy_o hd1) rfl (zDy_r3 hd1) ?_
  refine ex_step (pc' := 43) dX0_copy_42 rfl ?_
  refine ex_getr dX0_copy_43 wf_RX0_18 (zDy_o hd0) rfl (zDy_r3 hd0) ?_
  obtain ⟨I5, hc, h⟩ := h
  refine ex_callS (as := [.ref (d1 + 3), .ref (d0 + 3)]) (st := []) dX0_copy_46 zmX11_copyRow zl_RX0_51 zsX11_copyRow rfl (Nat.le_of_ble_eq_true rfl) (Nat.le_of_ble_eq_true rfl) hc ?_
  refine ex_step (pc' := 50) dX0_copy_49 rfl ?_
  refine ex_getr dX0_copy_50 wf_RX0_21 (zDy_o hd1) rfl (zDy_r4 hd1) ?_
  refine ex_step (pc' := 54) dX0_copy_53 rfl ?_
  refine ex_getr dX0_copy_54 wf_RX0_21 (zDy_o hd0) rfl (zDy_r4 hd0) ?_
  obtain ⟨I6, hc, h⟩ := h
  refine ex_callS (as := [.ref (d1 + 4), .ref (d0 + 4)]) (st := []) dX0_copy_57 zmX11_copyRow zl_RX0_51 zsX11_copyRow rfl (Nat.le_of_ble_eq_true rfl) (Nat.le_of_ble_eq_true rfl) hc ?_
  refine ex_step (pc' := 61) dX0_copy_60 rfl ?_
  refine ex_getr dX0_copy_61 wf_RX0_24 (zDy_o hd1) rfl (zDy_r5 hd1) ?_
  refine ex_step (pc' := 65) dX0_copy_64 rfl ?_
  refine ex_getr dX0_copy_65 wf_RX0_24 (zDy_o hd0) rfl (zDy_r5 hd0) ?_
  obtain ⟨I7, hc, h⟩ := h
  refine ex_callS (as := [.ref (d1 + 5), .ref (d0 + 5)]) (st := []) dX0_copy_68 zmX11_copyRow zl_RX0_51 zsX11_copyRow rfl (Nat.le_of_ble_eq_true rfl) (Nat.le_of_ble_eq_true rfl) hc ?_
  refine ex_step (pc' := 72) dX0_copy_71 rfl ?_
  refine ex_getr dX0_copy_72 wf_RX0_27 (zDy_o hd1) rfl (zDy_r6 hd1) ?_
  refine ex_step (pc' := 76) dX0_copy_75 rfl ?_
  refine ex_getr dX0_copy_76 wf_RX0_27 (zDy_o hd0) rfl (zDy_r6 hd0) ?_
  obtain ⟨I8, hc, h⟩ := h
  refine ex_callS (as := [.ref (d1 + 6), .ref (d0 + 6)]) (st := []) dX0_copy_79 zmX11_copyRow zl_RX0_51 zsX11_copyRow rfl (Nat.le_of_ble_eq_true rfl) (Nat.le_of_ble_eq_true rfl) hc ?_
  refine ex_step (pc' := 83) dX0_copy_82 rfl ?_
  refine ex_getr dX0_copy_83 wf_RX0_30 (zDy_o hd1) rfl (zDy_r7 hd1) ?_
  refine ex_step (pc' := 87) dX0_copy_86 rfl ?_
  refine ex_getr dX0_copy_87 wf_RX0_30 (zDy_o hd0) rfl (zDy_r7 hd0) ?_
  obtain ⟨I9, hc, h⟩ := h
  refine ex_callS (as := [.ref (d1 + 7), .ref (d0 + 7)]) (st := []) dX0_copy_90 zmX11_copyRow zl_RX0_51 zsX11_copyRow rfl (Nat.le_of_ble_eq_true rfl) (Nat.le_of_ble_eq_true rfl) hc ?_
  refine ex_step (pc' := 94) dX0_copy_93 rfl ?_
  refine ex_getr dX0_copy_94 wf_RX0_33 (zDy_o hd1) rfl (zDy_r8 hd1) ?_
  refine ex_step (pc' := 98) dX0_copy_97 rfl ?_
  refine ex_getr dX0_copy_98 wf_RX0_33 (zDy_o hd0) rfl (zDy_r8 hd0) ?_
  obtain ⟨I10, hc, h⟩ := h
  refine ex_callS (as := [.ref (d1 + 8), .ref (d0 + 8)]) (st := []) dX0_copy_101 zmX11_copyRow zl_RX0_51 zsX11_copyRow rfl (Nat.le_of_ble_eq_true rfl) (Nat.le_of_ble_eq_true rfl) hc ?_
  refine ex_step (pc' := 105) dX0_copy_104 rfl ?_
  refine ex_getr dX0_copy_105 wf_RX0_36 (zDy_o hd1) rfl (zDy_r9 hd1) ?_
  refine ex_step (pc' := 109) dX0_copy_108 rfl ?_
  refine ex_getr dX0_copy_109 wf_RX0_36 (zDy_o hd0) rfl (zDy_r9 hd0) ?_
  obtain ⟨I11, hc, h⟩ := h
  refine ex_callS (as := [.ref (d1 + 9), .ref (d0 + 9)]) (st := []) dX0_copy_112 zmX11_copyRow zl_RX0_51 zsX11_copyRow rfl (Nat.le_of_ble_eq_true rfl) (Nat.le_of_ble_eq_true rfl) hc ?_
  rw [h]; exact ex_ret (v := none) ⟨dX0_copy_115, rfl⟩
set_option maxHeartbeats 4000000 in
theorem BX0_left_0 {d : Nat} {Z : zZ} {I : zI} {J : zJ} {o : zO} {d0 : Nat} {t1 : Nat} (x2 : Int32) (hd0 : zDy Z d0) (ht1 : zTx Z t1) (h : o = (some (.int ((zat I (t1 + 9) 7 x2) - (zat I (d0 + 3) 7 x2))), Z, I, J)) : zE (d + 1) kX0_left 0 [some (.ref d0), some (.ref t1), some (.int x2)] [] Z I J o := by
  refine ex_step (pc' := 1) dX0_left_0 rfl ?_
  refine ex_getr dX0_left_1 wf_RX0_64 (zTx_o ht1) rfl (zTx_r10 ht1) ?_
  refine ex_step (pc' := 5) dX0_left_4 rfl ?_
  refine ex_callS (as := [.ref (t1 + 9), .int x2]) (st := []) dX0_left_5 zmX11_at zl_RX0_67 zsX11_at rfl (Nat.le_of_ble_eq_true rfl) (Nat.le_of_ble_eq_true rfl) (S_at' (by decide) (zTx_a9 ht1)) ?_
  refine ex_step (pc' := 9) dX0_left_8 rfl ?_
  refine ex_getr dX0_left_9 wf_RX0_18 (zDy_o hd0) rfl (zDy_r3 hd0) ?_
  refine ex_step (pc' := 13) dX0_left_12 rfl ?_
  refine ex_callS (as := [.ref (d0 + 3), .int x2]) (st := [.int (zat I (t1 + 9) 7 x2)]) dX0_left_13 zmX11_at zl_RX0_67 zsX11_at rfl (Nat.le_of_ble_eq_true rfl) (Nat.le_of_ble_eq_true rfl) (S_at' (by decide) (zDy_a3 hd0)) ?_
  refine ex_step (pc' := 17) dX0_left_16 rfl ?_
  rw [h]; exact ex_ret (v := some (.int ((zat I (t1 + 9) 7 x2) - (zat I (d0 + 3) 7 x2)))) ⟨dX0_left_17, _, rfl, rfl⟩
set_option maxHeartbeats 4000000 in
theorem BX0_canLay_0 {d : Nat} {Z : zZ} {I : zI} {J : zJ} {o : zO} {d0 : Nat} {t1 : Nat} (x2 : Int32) (x3 : Int32) (hd0 : zDy Z d0) (ht1 : zTx Z t1) (h : ((¬ (zat I (d0 + 4) 7 x2) = 0 → o = (some (.int 0), Z, I, J)) ∧ ((zat I (d0 + 4) 7 x2) = 0 → (∃ (v1 : Int32), zE (d + 1) kX0_left 0 [some (.ref d0), some (.ref t1), some (.int x2)] [] Z I J (some (.int v1), Z, I, J) ∧ ((v1 ≤ 0 → o = (some (.int 0), Z, I, J)) ∧ (¬ v1 ≤ 0 → (∃ (v2 : Int32), zE (d + 1) kX6_hasStreet 0 [some (.ref t1), some (.int (zat I (d0 + 1) 7 x2)), some (.int (zat I (d0 + 2) 7 x2)), some (.int x3)] [] Z I J (some (.int v2), Z, I, J) ∧ ((v2 = 0 → o = (some (.int 0), Z, I, J)) ∧ (¬ v2 = 0 → o = (some (.int 1), Z, I, J)))))))))) : zE (d + 2) kX0_canLay 0 [some (.ref d0), some (.ref t1), some (.int x2), some (.int x3)] [] Z I J o := by
  refine ex_step (pc' := 1) dX0_canLay_0 rfl ?_
  refine ex_getr dX0_canLay_1 wf_RX0_21 (zDy_o hd0) rfl (zDy_r4 hd0) ?_
  refine ex_step (pc' := 5) dX0_canLay_4 rfl ?_
  refine ex_callS (as := [.ref (d0 + 4), .int x2]) (st := []) dX0_canLay_5 zmX11_at zl_RX0_67 zsX11_at rfl (Nat.le_of_ble_eq_true rfl) (Nat.le_of_ble_eq_true rfl) (S_at' (by decide) (zDy_a4 hd0)) ?_
  refine ex_if (pc' := 48) dX0_canLay_8 (by decide) (fun c => ?_) (fun c => ?_)
  · have h := h.1 c
    refine ex_step (pc' := 49) (st' := [.int 0]) dX0_canLay_48 rfl ?_
    rw [h]; exact ex_ret (v := some (.int 0)) ⟨dX0_canLay_49, _, rfl, rfl⟩
  · have h := h.2 (Classical.not_not.mp c)
    refine ex_step (pc' := 12) dX0_canLay_11 rfl ?_
    refine ex_step (pc' := 13) dX0_canLay_12 rfl ?_
    refine ex_step (pc' := 14) dX0_canLay_13 rfl ?_
    obtain ⟨v1, hc, h⟩ := h
    refine ex_callV (as := [.ref t1, .int x2]) (st := []) (ci := 0) dX0_canLay_14 zmX0_left zl_RX0_71 ziX0_left zvX0_left (by decide) (zDy_o hd0) rfl (Nat.le_of_ble_eq_true rfl) (Nat.le_of_ble_eq_true rfl) hc ?_
    refine ex_if (pc' := 48) dX0_canLay_17 (by decide) (fun c => ?_) (fun c => ?_)
    · have h := h.1 c
      refine ex_step (pc' := 49) (st' := [.int 0]) dX0_canLay_48 rfl ?_
      rw [h]; exact ex_ret (v := some (.int 0)) ⟨dX0_canLay_49, _, rfl, rfl⟩
    · have h := h.2 c
      refine ex_step (pc' := 21) dX0_canLay_20 rfl ?_
      refine ex_step (pc' := 22) dX0_canLay_21 rfl ?_
      refine ex_getr dX0_canLay_22 wf_RX0_9 (zDy_o hd0) rfl (zDy_r1 hd0) ?_
      refine ex_step (pc' := 26) dX0_canLay_25 rfl ?_
      refine ex_callS (as := [.ref (d0 + 1), .int x2]) (st := [.ref t1]) dX0_canLay_26 zmX11_at zl_RX0_67 zsX11_at rfl (Nat.le_of_ble_eq_true rfl) (Nat.le_of_ble_eq_true rfl) (S_at' (by decide) (zDy_a1 hd0)) ?_
      refine ex_step (pc' := 30) dX0_canLay_29 rfl ?_
      refine ex_getr dX0_canLay_30 wf_RX0_15 (zDy_o hd0) rfl (zDy_r2 hd0) ?_
      refine ex_step (pc' := 34) dX0_canLay_33 rfl ?_
      refine ex_callS (as := [.ref (d0 + 2), .int x2]) (st := [.int (zat I (d0 + 1) 7 x2), .ref t1]) dX0_canLay_34 zmX11_at zl_RX0_67 zsX11_at rfl (Nat.le_of_ble_eq_true rfl) (Nat.le_of_ble_eq_true rfl) (S_at' (by decide) (zDy_a2 hd0)) ?_
      refine ex_step (pc' := 38) dX0_canLay_37 rfl ?_
      obtain ⟨v2, hc, h⟩ := h
      refine ex_callV (as := [.int (zat I (d0 + 1) 7 x2), .int (zat I (d0 + 2) 7 x2), .int x3]) (st := []) (ci := 6) dX0_canLay_38 zmX6_hasStreet zl_RX0_75 ziX6_hasStreet zvX6_hasStreet (by decide) (zTx_o ht1) rfl (Nat.le_of_ble_eq_true rfl) (Nat.le_of_ble_eq_true rfl) hc ?_
      refine ex_if (pc' := 48) dX0_canLay_41 (by decide) (fun c => ?_) (fun c => ?_)
      · have h := h.1 c
        refine ex_step (pc' := 49) (st' := [.int 0]) dX0_canLay_48 rfl ?_
        rw [h]; exact ex_ret (v := some (.int 0)) ⟨dX0_canLay_49, _, rfl, rfl⟩
      · have h := h.2 c
        refine ex_step (pc' := 45) (st' := [.int 1]) dX0_canLay_44 rfl ?_
        refine ex_step (pc' := 49) dX0_canLay_45 rfl ?_
        rw [h]; exact ex_ret (v := some (.int 1)) ⟨dX0_canLay_49, _, rfl, rfl⟩
set_option maxHeartbeats 4000000 in
theorem BX0_lay_0 {d : Nat} {Z : zZ} {I : zI} {J : zJ} {o : zO} {t u : Nat} {d0 : Nat} {t1 : Nat} (x2 : Int32) (x3 : Int32) (hL : zLY Z t u) (hd0 : zDy Z d0) (ht1 : zTx Z t1) (h : (∃ (v1 : Int32), zE (d + 2) kX0_canLay 0 [some (.ref d0), some (.ref t1), some (.int x2), some (.int x3)] [] Z I J (some (.int v1), Z, I, J) ∧ ((¬ v1 = 0 → (∀ y2 : Int32, y2 = (zpc x2 (zat I (d0 + 3) 7 x2)) → (∀ y3 : Int32, y3 = (zsc (zat I (d0 + 1) 7 x2) (zat I (d0 + 2) 7 x2) x3) → (∀ I4 : zI, I4 = zu I d0 10 ((I d0 10) + 1) → (∀ I5 : zI, I5 = zpt I4 (d0 + 5) 421 y2 x3 → (∀ I6 : zI, I6 = zpt I5 (d0 + 6) 421 y2 y3 → (∀ I7 : zI, I7 = zpt I6 (d0 + 7) 421 y2 (zat I6 (d0 + 9) 288 y3) → (∀ I8 : zI, I8 = zpt I7 (d0 + 8) 421 y2 (I7 d0 10) → (∀ I9 : zI, I9 = zpt I8 (d0 + 9) 288 y3 y2 → (∀ I10 : zI, I10 = zpt I9 (d0 + 3) 7 x2 ((zat I9 (d0 + 3) 7 x2) + 1) → (∃ (v11 : Int32), zE (d + 2) kX11_at 0 [some (.ref 1000001), some (.int x3)] [] Z I10 J (some (.int v11), Z, I10, J) ∧ (∀ I12 : zI, I12 = zpt I10 (d0 + 1) 7 x2 ((zat I10 (d0 + 1) 7 x2) + v11) → (∃ (v13 : Int32), zE (d + 2) kX11_at 0 [some (.ref 1000002), some (.int x3)] [] Z I12 J (some (.int v13), Z, I12, J) ∧ (∀ I14 : zI, I14 = zpt I12 (d0 + 2) 7 x2 ((zat I12 (d0 + 2) 7 x2) + v13) → o = (none, Z, I14, J))))))))))))))) ∧ (v1 = 0 → o = (none, Z, I, J))))) : zE (d + 3) kX0_lay 0 [some (.ref d0), some (.ref t1), some (.int x2), some (.int x3), none, none] [] Z I J o := by
  refine ex_step (pc' := 1) dX0_lay_0 rfl ?_
  refine ex_step (pc' := 2) dX0_lay_1 rfl ?_
  refine ex_step (pc' := 3) dX0_lay_2 rfl ?_
  refine ex_step (pc' := 4) dX0_lay_3 rfl ?_
  obtain ⟨v1, hc, h⟩ := h
  refine ex_callV (as := [.ref t1, .int x2, .int x3]) (st := []) (ci := 0) dX0_lay_4 zmX0_canLay zl_RX0_79 ziX0_canLay zvX0_canLay (by decide) (zDy_o hd0) rfl (Nat.le_of_ble_eq_true rfl) (Nat.le_of_ble_eq_true rfl) hc ?_
  refine ex_if (pc' := 11) dX0_lay_7 (by decide) (fun c => ?_) (fun c => ?_)
  · have h := h.1 c
    refine ex_step (pc' := 12) dX0_lay_11 rfl ?_
    refine ex_step (pc' := 13) dX0_lay_12 rfl ?_
    refine ex_getr dX0_lay_13 wf_RX0_18 (zDy_o hd0) rfl (zDy_r3 hd0) ?_
    refine ex_step (pc' := 17) dX0_lay_16 rfl ?_
    refine ex_callS (as := [.ref (d0 + 3), .int x2]) (st := [.int x2]) dX0_lay_17 zmX11_at zl_RX0_67 zsX11_at rfl (Nat.le_of_ble_eq_true rfl) (Nat.le_of_ble_eq_true rfl) (S_at' (by decide) (zDy_a3 hd0)) ?_
    refine ex_callS (as := [.int x2, .int (zat I (d0 + 3) 7 x2)]) (st := []) dX0_lay_20 zmX11_pieceOf zl_RX0_83 zsX11_pieceOf rfl (Nat.le_of_ble_eq_true rfl) (Nat.le_of_ble_eq_true rfl) S_pieceOf ?_
    refine ex_topi (fun y2 ey2 => ?_)
    have h := h y2 ey2
    refine ex_step (pc' := 25) (ls' := [some (.ref d0), some (.ref t1), some (.int x2), some (.int x3), some (.int y2), none]) dX0_lay_23 rfl ?_
    refine ex_step (pc' := 26) dX0_lay_25 rfl ?_
    refine ex_getr dX0_lay_26 wf_RX0_9 (zDy_o hd0) rfl (zDy_r1 hd0) ?_
    refine ex_step (pc' := 30) dX0_lay_29 rfl ?_
    refine ex_callS (as := [.ref (d0 + 1), .int x2]) (st := []) dX0_lay_30 zmX11_at zl_RX0_67 zsX11_at rfl (Nat.le_of_ble_eq_true rfl) (Nat.le_of_ble_eq_true rfl) (S_at' (by decide) (zDy_a1 hd0)) ?_
    refine ex_step (pc' := 34) dX0_lay_33 rfl ?_
    refine ex_getr dX0_lay_34 wf_RX0_15 (zDy_o hd0) rfl (zDy_r2 hd0) ?_
    refine ex_step (pc' := 38) dX0_lay_37 rfl ?_
    refine ex_callS (as := [.ref (d0 + 2), .int x2]) (st := [.int (zat I (d0 + 1) 7 x2)]) dX0_lay_38 zmX11_at zl_RX0_67 zsX11_at rfl (Nat.le_of_ble_eq_true rfl) (Nat.le_of_ble_eq_true rfl) (S_at' (by decide) (zDy_a2 hd0)) ?_
    refine ex_step (pc' := 42) dX0_lay_41 rfl ?_
    refine ex_callS (as := [.int (zat I (d0 + 1) 7 x2), .int (zat I (d0 + 2) 7 x2), .int x3]) (st := []) dX0_lay_42 zmX11_streetOf zl_RX0_87 zsX11_streetOf rfl (Nat.le_of_ble_eq_true rfl) (Nat.le_of_ble_eq_true rfl) S_streetOf ?_
    refine ex_topi (fun y3 ey3 => ?_)
    have h := h y3 ey3
    refine ex_step (pc' := 47) (ls' := [some (.ref d0), some (.ref t1), some (.int x2), some (.int x3), some (.int y2), some (.int y3)]) dX0_lay_45 rfl ?_
    refine ex_step (pc' := 48) dX0_lay_47 rfl ?_
    refine ex_step (pc' := 49) dX0_lay_48 rfl ?_
    refine ex_geti dX0_lay_49 wf_RX0_43 (zDy_o hd0) rfl ?_
    refine ex_step (pc' := 53) (st' := [.int 1, .int (I d0 10), .ref d0]) dX0_lay_52 rfl ?_
    refine ex_step (pc' := 54) dX0_lay_53 rfl ?_
    refine ex_putiN dX0_lay_54 (wp_RX0_43 _) (zDy_o hd0) rfl ⟨rfl, rfl⟩ (fun I4 eI4 => ?_)
    have h := h I4 eI4
    refine ex_step (pc' := 58) dX0_lay_57 rfl ?_
    refine ex_getr dX0_lay_58 wf_RX0_24 (zDy_o hd0) rfl (zDy_r5 hd0) ?_
    refine ex_step (pc' := 63) dX0_lay_61 rfl ?_
    refine ex_step (pc' := 64) dX0_lay_63 rfl ?_
    obtain ⟨I5, eI5⟩ : ∃ q : zI, q = zpt I4 (d0 + 5) 421 y2 x3 := ⟨_, rfl⟩
    have h := h I5 eI5
    refine ex_callS (as := [.ref (d0 + 5), .int y2, .int x3]) (st := []) dX0_lay_64 zmX11_put zl_RX0_91 zsX11_put rfl (Nat.le_of_ble_eq_true rfl) (Nat.le_of_ble_eq_true rfl) (eI5 ▸ (S_put' (by decide) (zDy_a5 hd0))) ?_
    refine ex_step (pc' := 68) dX0_lay_67 rfl ?_
    refine ex_getr dX0_lay_68 wf_RX0_27 (zDy_o hd0) rfl (zDy_r6 hd0) ?_
    refine ex_step (pc' := 73) dX0_lay_71 rfl ?_
    refine ex_step (pc' := 75) dX0_lay_73 rfl ?_
    obtain ⟨I6, eI6⟩ : ∃ q : zI, q = zpt I5 (d0 + 6) 421 y2 y3 := ⟨_, rfl⟩
    have h := h I6 eI6
    refine ex_callS (as := [.ref (d0 + 6), .int y2, .int y3]) (st := []) dX0_lay_75 zmX11_put zl_RX0_91 zsX11_put rfl (Nat.le_of_ble_eq_true rfl) (Nat.le_of_ble_eq_true rfl) (eI6 ▸ (S_put' (by decide) (zDy_a6 hd0))) ?_
    refine ex_step (pc' := 79) dX0_lay_78 rfl ?_
    refine ex_getr dX0_lay_79 wf_RX0_30 (zDy_o hd0) rfl (zDy_r7 hd0) ?_
    refine ex_step (pc' := 84) dX0_lay_82 rfl ?_
    refine ex_step (pc' := 85) dX0_lay_84 rfl ?_
    refine ex_getr dX0_lay_85 wf_RX0_36 (zDy_o hd0) rfl (zDy_r9 hd0) ?_
    refine ex_step (pc' := 90) dX0_lay_88 rfl ?_
    refine ex_callS (as := [.ref (d0 + 9), .int y3]) (st := [.int y2, .ref (d0 + 7)]) dX0_lay_90 zmX11_at zl_RX0_67 zsX11_at rfl (Nat.le_of_ble_eq_true rfl) (Nat.le_of_ble_eq_true rfl) (S_at' (by decide) (zDy_a9 hd0)) ?_
    obtain ⟨I7, eI7⟩ : ∃ q : zI, q = zpt I6 (d0 + 7) 421 y2 (zat I6 (d0 + 9) 288 y3) := ⟨_, rfl⟩
    have h := h I7 eI7
    refine ex_callS (as := [.ref (d0 + 7), .int y2, .int (zat I6 (d0 + 9) 288 y3)]) (st := []) dX0_lay_93 zmX11_put zl_RX0_91 zsX11_put rfl (Nat.le_of_ble_eq_true rfl) (Nat.le_of_ble_eq_true rfl) (eI7 ▸ (S_put' (by decide) (zDy_a7 hd0))) ?_
    refine ex_step (pc' := 97) dX0_lay_96 rfl ?_
    refine ex_getr dX0_lay_97 wf_RX0_33 (zDy_o hd0) rfl (zDy_r8 hd0) ?_
    refine ex_step (pc' := 102) dX0_lay_100 rfl ?_
    refine ex_step (pc' := 103) dX0_lay_102 rfl ?_
    refine ex_geti dX0_lay_103 wf_RX0_43 (zDy_o hd0) rfl ?_
    obtain ⟨I8, eI8⟩ : ∃ q : zI, q = zpt I7 (d0 + 8) 421 y2 (I7 d0 10) := ⟨_, rfl⟩
    have h := h I8 eI8
    refine ex_callS (as := [.ref (d0 + 8), .int y2, .int (I7 d0 10)]) (st := []) dX0_lay_106 zmX11_put zl_RX0_91 zsX11_put rfl (Nat.le_of_ble_eq_true rfl) (Nat.le_of_ble_eq_true rfl) (eI8 ▸ (S_put' (by decide) (zDy_a8 hd0))) ?_
    refine ex_step (pc' := 110) dX0_lay_109 rfl ?_
    refine ex_getr dX0_lay_110 wf_RX0_36 (zDy_o hd0) rfl (zDy_r9 hd0) ?_
    refine ex_step (pc' := 115) dX0_lay_113 rfl ?_
    refine ex_step (pc' := 117) dX0_lay_115 rfl ?_
    obtain ⟨I9, eI9⟩ : ∃ q : zI, q = zpt I8 (d0 + 9) 288 y3 y2 := ⟨_, rfl⟩
    have h := h I9 eI9
    refine ex_callS (as := [.ref (d0 + 9), .int y3, .int y2]) (st := []) dX0_lay_117 zmX11_put zl_RX0_91 zsX11_put rfl (Nat.le_of_ble_eq_true rfl) (Nat.le_of_ble_eq_true rfl) (eI9 ▸ (S_put' (by decide) (zDy_a9 hd0))) ?_
    refine ex_step (pc' := 121) dX0_lay_120 rfl ?_
    refine ex_getr dX0_lay_121 wf_RX0_18 (zDy_o hd0) rfl (zDy_r3 hd0) ?_
    refine ex_step (pc' := 125) dX0_lay_124 rfl ?_
    refine ex_step (pc' := 126) dX0_lay_125 rfl ?_
    refine ex_getr dX0_lay_126 wf_RX0_18 (zDy_o hd0) rfl (zDy_r3 hd0) ?_
    refine ex_step (pc' := 130) dX0_lay_129 rfl ?_
    refine ex_callS (as := [.ref (d0 + 3), .int x2]) (st := [.int x2, .ref (d0 + 3)]) dX0_lay_130 zmX11_at zl_RX0_67 zsX11_at rfl (Nat.le_of_ble_eq_true rfl) (Nat.le_of_ble_eq_true rfl) (S_at' (by decide) (zDy_a3 hd0)) ?_
    refine ex_step (pc' := 134) (st' := [.int 1, .int (zat I9 (d0 + 3) 7 x2), .int x2, .ref (d0 + 3)]) dX0_lay_133 rfl ?_
    refine ex_step (pc' := 135) dX0_lay_134 rfl ?_
    obtain ⟨I10, eI10⟩ : ∃ q : zI, q = zpt I9 (d0 + 3) 7 x2 ((zat I9 (d0 + 3) 7 x2) + 1) := ⟨_, rfl⟩
    have h := h I10 eI10
    refine ex_callS (as := [.ref (d0 + 3), .int x2, .int ((zat I9 (d0 + 3) 7 x2) + 1)]) (st := []) dX0_lay_135 zmX11_put zl_RX0_91 zsX11_put rfl (Nat.le_of_ble_eq_true rfl) (Nat.le_of_ble_eq_true rfl) (eI10 ▸ (S_put' (by decide) (zDy_a3 hd0))) ?_
    refine ex_step (pc' := 139) dX0_lay_138 rfl ?_
    refine ex_getr dX0_lay_139 wf_RX0_9 (zDy_o hd0) rfl (zDy_r1 hd0) ?_
    refine ex_step (pc' := 143) dX0_lay_142 rfl ?_
    refine ex_step (pc' := 144) dX0_lay_143 rfl ?_
    refine ex_getr dX0_lay_144 wf_RX0_9 (zDy_o hd0) rfl (zDy_r1 hd0) ?_
    refine ex_step (pc' := 148) dX0_lay_147 rfl ?_
    refine ex_callS (as := [.ref (d0 + 1), .int x2]) (st := [.int x2, .ref (d0 + 1)]) dX0_lay_148 zmX11_at zl_RX0_67 zsX11_at rfl (Nat.le_of_ble_eq_true rfl) (Nat.le_of_ble_eq_true rfl) (S_at' (by decide) (zDy_a1 hd0)) ?_
    refine ex_gets dX0_lay_151 (Or.inl ⟨rfl, zg_RX0_95⟩) ?_
    refine ex_step (pc' := 155) dX0_lay_154 rfl ?_
    obtain ⟨v11, hc, h⟩ := h
    refine ex_callS (as := [.ref 1000001, .int x3]) (st := [.int (zat I10 (d0 + 1) 7 x2), .int x2, .ref (d0 + 1)]) dX0_lay_155 zmX11_at zl_RX0_67 zsX11_at rfl (Nat.le_of_ble_eq_true rfl) (Nat.le_of_ble_eq_true rfl) hc ?_
    refine ex_step (pc' := 159) dX0_lay_158 rfl ?_
    obtain ⟨I12, eI12⟩ : ∃ q : zI, q = zpt I10 (d0 + 1) 7 x2 ((zat I10 (d0 + 1) 7 x2) + v11) := ⟨_, rfl⟩
    have h := h I12 eI12
    refine ex_callS (as := [.ref (d0 + 1), .int x2, .int ((zat I10 (d0 + 1) 7 x2) + v11)]) (st := []) dX0_lay_159 zmX11_put zl_RX0_91 zsX11_put rfl (Nat.le_of_ble_eq_true rfl) (Nat.le_of_ble_eq_true rfl) (eI12 ▸ (S_put' (by decide) (zDy_a1 hd0))) ?_
    refine ex_step (pc' := 163) dX0_lay_162 rfl ?_
    refine ex_getr dX0_lay_163 wf_RX0_15 (zDy_o hd0) rfl (zDy_r2 hd0) ?_
    refine ex_step (pc' := 167) dX0_lay_166 rfl ?_
    refine ex_step (pc' := 168) dX0_lay_167 rfl ?_
    refine ex_getr dX0_lay_168 wf_RX0_15 (zDy_o hd0) rfl (zDy_r2 hd0) ?_
    refine ex_step (pc' := 172) dX0_lay_171 rfl ?_
    refine ex_callS (as := [.ref (d0 + 2), .int x2]) (st := [.int x2, .ref (d0 + 2)]) dX0_lay_172 zmX11_at zl_RX0_67 zsX11_at rfl (Nat.le_of_ble_eq_true rfl) (Nat.le_of_ble_eq_true rfl) (S_at' (by decide) (zDy_a2 hd0)) ?_
    refine ex_gets dX0_lay_175 (Or.inr ⟨rfl, zg_RX0_98⟩) ?_
    refine ex_step (pc' := 179) dX0_lay_178 rfl ?_
    obtain ⟨v13, hc, h⟩ := h
    refine ex_callS (as := [.ref 1000002, .int x3]) (st := [.int (zat I12 (d0 + 2) 7 x2), .int x2, .ref (d0 + 2)]) dX0_lay_179 zmX11_at zl_RX0_67 zsX11_at rfl (Nat.le_of_ble_eq_true rfl) (Nat.le_of_ble_eq_true rfl) hc ?_
    refine ex_step (pc' := 183) dX0_lay_182 rfl ?_
    obtain ⟨I14, eI14⟩ : ∃ q : zI, q = zpt I12 (d0 + 2) 7 x2 ((zat I12 (d0 + 2) 7 x2) + v13) := ⟨_, rfl⟩
    have h := h I14 eI14
    refine ex_callS (as := [.ref (d0 + 2), .int x2, .int ((zat I12 (d0 + 2) 7 x2) + v13)]) (st := []) dX0_lay_183 zmX11_put zl_RX0_91 zsX11_put rfl (Nat.le_of_ble_eq_true rfl) (Nat.le_of_ble_eq_true rfl) (eI14 ▸ (S_put' (by decide) (zDy_a2 hd0))) ?_
    rw [h]; exact ex_ret (v := none) ⟨dX0_lay_186, rfl⟩
  · have h := h.2 (Classical.not_not.mp c)
    rw [h]; exact ex_ret (v := none) ⟨dX0_lay_10, rfl⟩
set_option maxHeartbeats 4000000 in
theorem BX0_lastOf_0 {d : Nat} {Z : zZ} {I : zI} {J : zJ} {o : zO} {d0 : Nat} (x1 : Int32) (hd0 : zDy Z d0) (h : (((zat I (d0 + 3) 7 x1) ≤ 0 → o = (some (.int 0), Z, I, J)) ∧ (¬ (zat I (d0 + 3) 7 x1) ≤ 0 → o = (some (.int (zpc x1 ((zat I (d0 + 3) 7 x1) - 1))), Z, I, J)))) : zE (d + 1) kX0_lastOf 0 [some (.ref d0), some (.int x1), none] [] Z I J o := by
  refine ex_step (pc' := 1) dX0_lastOf_0 rfl ?_
  refine ex_getr dX0_lastOf_1 wf_RX0_18 (zDy_o hd0) rfl (zDy_r3 hd0) ?_
  refine ex_step (pc' := 5) dX0_lastOf_4 rfl ?_
  refine ex_callS (as := [.ref (d0 + 3), .int x1]) (st := []) dX0_lastOf_5 zmX11_at zl_RX0_67 zsX11_at rfl (Nat.le_of_ble_eq_true rfl) (Nat.le_of_ble_eq_true rfl) (S_at' (by decide) (zDy_a3 hd0)) ?_
  refine ex_step (pc' := 9) (ls' := [some (.ref d0), some (.int x1), some (.int (zat I (d0 + 3) 7 x1))]) dX0_lastOf_8 rfl ?_
  refine ex_step (pc' := 10) dX0_lastOf_9 rfl ?_
  refine ex_if (pc' := 23) dX0_lastOf_10 (by decide) (fun c => ?_) (fun c => ?_)
  · have h := h.1 c
    refine ex_step (pc' := 24) (st' := [.int 0]) dX0_lastOf_23 rfl ?_
    rw [h]; exact ex_ret (v := some (.int 0)) ⟨dX0_lastOf_24, _, rfl, rfl⟩
  · have h := h.2 c
    refine ex_step (pc' := 14) dX0_lastOf_13 rfl ?_
    refine ex_step (pc' := 15) dX0_lastOf_14 rfl ?_
    refine ex_step (pc' := 16) (st' := [.int 1, .int (zat I (d0 + 3) 7 x1), .int x1]) dX0_lastOf_15 rfl ?_
    refine ex_step (pc' := 17) dX0_lastOf_16 rfl ?_
    refine ex_callS (as := [.int x1, .int ((zat I (d0 + 3) 7 x1) - 1)]) (st := []) dX0_lastOf_17 zmX11_pieceOf zl_RX0_83 zsX11_pieceOf rfl (Nat.le_of_ble_eq_true rfl) (Nat.le_of_ble_eq_true rfl) S_pieceOf ?_
    refine ex_step (pc' := 24) dX0_lastOf_20 rfl ?_
    rw [h]; exact ex_ret (v := some (.int (zpc x1 ((zat I (d0 + 3) 7 x1) - 1)))) ⟨dX0_lastOf_24, _, rfl, rfl⟩
set_option maxHeartbeats 4000000 in
theorem BX0_canTakeUp_0 {d : Nat} {Z : zZ} {I : zI} {J : zJ} {o : zO} {d0 : Nat} (x1 : Int32) (hd0 : zDy Z d0) (h : (∃ (v1 : Int32), zE (d + 1) kX0_lastOf 0 [some (.ref d0), some (.int x1), none] [] Z I J (some (.int v1), Z, I, J) ∧ ((v1 = 0 → o = (some (.int 0), Z, I, J)) ∧ (¬ v1 = 0 → ((¬ (zat I (d0 + 4) 7 x1) = 0 → o = (some (.int 0), Z, I, J)) ∧ ((zat I (d0 + 4) 7 x1) = 0 → ((¬ (zat I (d0 + 9) 288 (zat I (d0 + 6) 421 v1)) = v1 → o = (some (.int 0), Z, I, J)) ∧ ((zat I (d0 + 9) 288 (zat I (d0 + 6) 421 v1)) = v1 → o = (some (.int 1), Z, I, J))))))))) : zE (d + 2) kX0_canTakeUp 0 [some (.ref d0), some (.int x1), none] [] Z I J o := by
  refine ex_step (pc' := 1) dX0_canTakeUp_0 rfl ?_
  refine ex_step (pc' := 2) dX0_canTakeUp_1 rfl ?_
  obtain ⟨v1, hc, h⟩ := h
  refine ex_callV (as := [.int x1]) (st := []) (ci := 0) dX0_canTakeUp_2 zmX0_lastOf zl_RX0_101 ziX0_lastOf zvX0_lastOf (by decide) (zDy_o hd0) rfl (Nat.le_of_ble_eq_true rfl) (Nat.le_of_ble_eq_true rfl) hc ?_
  refine ex_step (pc' := 6) (ls' := [some (.ref d0), some (.int x1), some (.int v1)]) dX0_canTakeUp_5 rfl ?_
  refine ex_step (pc' := 7) dX0_canTakeUp_6 rfl ?_
  refine ex_if (pc' := 44) dX0_canTakeUp_7 (by decide) (fun c => ?_) (fun c => ?_)
  · have h := h.1 c
    refine ex_step (pc' := 45) (st' := [.int 0]) dX0_canTakeUp_44 rfl ?_
    rw [h]; exact ex_ret (v := some (.int 0)) ⟨dX0_canTakeUp_45, _, rfl, rfl⟩
  · have h := h.2 c
    refine ex_step (pc' := 11) dX0_canTakeUp_10 rfl ?_
    refine ex_getr dX0_canTakeUp_11 wf_RX0_21 (zDy_o hd0) rfl (zDy_r4 hd0) ?_
    refine ex_step (pc' := 15) dX0_canTakeUp_14 rfl ?_
    refine ex_callS (as := [.ref (d0 + 4), .int x1]) (st := []) dX0_canTakeUp_15 zmX11_at zl_RX0_67 zsX11_at rfl (Nat.le_of_ble_eq_true rfl) (Nat.le_of_ble_eq_true rfl) (S_at' (by decide) (zDy_a4 hd0)) ?_
    refine ex_if (pc' := 44) dX0_canTakeUp_18 (by decide) (fun c => ?_) (fun c => ?_)
    · have h := h.1 c
      refine ex_step (pc' := 45) (st' := [.int 0]) dX0_canTakeUp_44 rfl ?_
      rw [h]; exact ex_ret (v := some (.int 0)) ⟨dX0_canTakeUp_45, _, rfl, rfl⟩
    · have h := h.2 (Classical.not_not.mp c)
      refine ex_step (pc' := 22) dX0_canTakeUp_21 rfl ?_
      refine ex_getr dX0_canTakeUp_22 wf_RX0_36 (zDy_o hd0) rfl (zDy_r9 hd0) ?_
      refine ex_step (pc' := 26) dX0_canTakeUp_25 rfl ?_
      refine ex_getr dX0_canTakeUp_26 wf_RX0_27 (zDy_o hd0) rfl (zDy_r6 hd0) ?_
      refine ex_step (pc' := 30) dX0_canTakeUp_29 rfl ?_
      refine ex_callS (as := [.ref (d0 + 6), .int v1]) (st := [.ref (d0 + 9)]) dX0_canTakeUp_30 zmX11_at zl_RX0_67 zsX11_at rfl (Nat.le_of_ble_eq_true rfl) (Nat.le_of_ble_eq_true rfl) (S_at' (by decide) (zDy_a6 hd0)) ?_
      refine ex_callS (as := [.ref (d0 + 9), .int (zat I (d0 + 6) 421 v1)]) (st := []) dX0_canTakeUp_33 zmX11_at zl_RX0_67 zsX11_at rfl (Nat.le_of_ble_eq_true rfl) (Nat.le_of_ble_eq_true rfl) (S_at' (by decide) (zDy_a9 hd0)) ?_
      refine ex_step (pc' := 37) dX0_canTakeUp_36 rfl ?_
      refine ex_icmp (pc' := 44) dX0_canTakeUp_37 (by decide) (fun c => ?_) (fun c => ?_)
      · have h := h.1 c
        refine ex_step (pc' := 45) (st' := [.int 0]) dX0_canTakeUp_44 rfl ?_
        rw [h]; exact ex_ret (v := some (.int 0)) ⟨dX0_canTakeUp_45, _, rfl, rfl⟩
      · have h := h.2 (Classical.not_not.mp c)
        refine ex_step (pc' := 41) (st' := [.int 1]) dX0_canTakeUp_40 rfl ?_
        refine ex_step (pc' := 45) dX0_canTakeUp_41 rfl ?_
        rw [h]; exact ex_ret (v := some (.int 1)) ⟨dX0_canTakeUp_45, _, rfl, rfl⟩
set_option maxHeartbeats 4000000 in
theorem BX0_takeUp_0 {d : Nat} {Z : zZ} {I : zI} {J : zJ} {o : zO} {t u : Nat} {d0 : Nat} (x1 : Int32) (hL : zLY Z t u) (hd0 : zDy Z d0) (h : (∃ (v1 : Int32), zE (d + 2) kX0_canTakeUp 0 [some (.ref d0), some (.int x1), none] [] Z I J (some (.int v1), Z, I, J) ∧ ((¬ v1 = 0 → (∃ (v2 : Int32), zE (d + 2) kX0_lastOf 0 [some (.ref d0), some (.int x1), none] [] Z I J (some (.int v2), Z, I, J) ∧ (∀ I3 : zI, I3 = zpt I (d0 + 9) 288 (zat I (d0 + 6) 421 v2) (zat I (d0 + 7) 421 v2) → (∀ I4 : zI, I4 = zpt I3 (d0 + 3) 7 x1 ((zat I3 (d0 + 3) 7 x1) - 1) → (∃ (v5 : Int32), zE (d + 2) kX11_at 0 [some (.ref 1000001), some (.int (zat I (d0 + 5) 421 v2))] [] Z I4 J (some (.int v5), Z, I4, J) ∧ (∀ I6 : zI, I6 = zpt I4 (d0 + 1) 7 x1 ((zat I4 (d0 + 1) 7 x1) - v5) → (∃ (v7 : Int32), zE (d + 2) kX11_at 0 [some (.ref 1000002), some (.int (zat I (d0 + 5) 421 v2))] [] Z I6 J (some (.int v7), Z, I6, J) ∧ (∀ I8 : zI, I8 = zpt I6 (d0 + 2) 7 x1 ((zat I6 (d0 + 2) 7 x1) - v7) → o = (some (.int 1), Z, I8, J))))))))) ∧ (v1 = 0 → o = (some (.int 0), Z, I, J))))) : zE (d + 3) kX0_takeUp 0 [some (.ref d0), some (.int x1), none, none] [] Z I J o := by
  refine ex_step (pc' := 1) dX0_takeUp_0 rfl ?_
  refine ex_step (pc' := 2) dX0_takeUp_1 rfl ?_
  obtain ⟨v1, hc, h⟩ := h
  refine ex_callV (as := [.int x1]) (st := []) (ci := 0) dX0_takeUp_2 zmX0_canTakeUp zl_RX0_105 ziX0_canTakeUp zvX0_canTakeUp (by decide) (zDy_o hd0) rfl (Nat.le_of_ble_eq_true rfl) (Nat.le_of_ble_eq_true rfl) hc ?_
  refine ex_if (pc' := 10) dX0_takeUp_5 (by decide) (fun c => ?_) (fun c => ?_)
  · have h := h.1 c
    refine ex_step (pc' := 11) dX0_takeUp_10 rfl ?_
    refine ex_step (pc' := 12) dX0_takeUp_11 rfl ?_
    obtain ⟨v2, hc, h⟩ := h
    refine ex_callV (as := [.int x1]) (st := []) (ci := 0) dX0_takeUp_12 zmX0_lastOf zl_RX0_101 ziX0_lastOf zvX0_lastOf (by decide) (zDy_o hd0) rfl (Nat.le_of_ble_eq_true rfl) (Nat.le_of_ble_eq_true rfl) hc ?_
    refine ex_step (pc' := 16) (ls' := [some (.ref d0), some (.int x1), some (.int v2), none]) dX0_takeUp_15 rfl ?_
    refine ex_step (pc' := 17) dX0_takeUp_16 rfl ?_
    refine ex_getr dX0_takeUp_17 wf_RX0_24 (zDy_o hd0) rfl (zDy_r5 hd0) ?_
    refine ex_step (pc' := 21) dX0_takeUp_20 rfl ?_
    refine ex_callS (as := [.ref (d0 + 5), .int v2]) (st := []) dX0_takeUp_21 zmX11_at zl_RX0_67 zsX11_at rfl (Nat.le_of_ble_eq_true rfl) (Nat.le_of_ble_eq_true rfl) (S_at' (by decide) (zDy_a5 hd0)) ?_
    refine ex_step (pc' := 25) (ls' := [some (.ref d0), some (.int x1), some (.int v2), some (.int (zat I (d0 + 5) 421 v2))]) dX0_takeUp_24 rfl ?_
    refine ex_step (pc' := 26) dX0_takeUp_25 rfl ?_
    refine ex_getr dX0_takeUp_26 wf_RX0_36 (zDy_o hd0) rfl (zDy_r9 hd0) ?_
    refine ex_step (pc' := 30) dX0_takeUp_29 rfl ?_
    refine ex_getr dX0_takeUp_30 wf_RX0_27 (zDy_o hd0) rfl (zDy_r6 hd0) ?_
    refine ex_step (pc' := 34) dX0_takeUp_33 rfl ?_
    refine ex_callS (as := [.ref (d0 + 6), .int v2]) (st := [.ref (d0 + 9)]) dX0_takeUp_34 zmX11_at zl_RX0_67 zsX11_at rfl (Nat.le_of_ble_eq_true rfl) (Nat.le_of_ble_eq_true rfl) (S_at' (by decide) (zDy_a6 hd0)) ?_
    refine ex_step (pc' := 38) dX0_takeUp_37 rfl ?_
    refine ex_getr dX0_takeUp_38 wf_RX0_30 (zDy_o hd0) rfl (zDy_r7 hd0) ?_
    refine ex_step (pc' := 42) dX0_takeUp_41 rfl ?_
    refine ex_callS (as := [.ref (d0 + 7), .int v2]) (st := [.int (zat I (d0 + 6) 421 v2), .ref (d0 + 9)]) dX0_takeUp_42 zmX11_at zl_RX0_67 zsX11_at rfl (Nat.le_of_ble_eq_true rfl) (Nat.le_of_ble_eq_true rfl) (S_at' (by decide) (zDy_a7 hd0)) ?_
    obtain ⟨I3, eI3⟩ : ∃ q : zI, q = zpt I (d0 + 9) 288 (zat I (d0 + 6) 421 v2) (zat I (d0 + 7) 421 v2) := ⟨_, rfl⟩
    have h := h I3 eI3
    refine ex_callS (as := [.ref (d0 + 9), .int (zat I (d0 + 6) 421 v2), .int (zat I (d0 + 7) 421 v2)]) (st := []) dX0_takeUp_45 zmX11_put zl_RX0_91 zsX11_put rfl (Nat.le_of_ble_eq_true rfl) (Nat.le_of_ble_eq_true rfl) (eI3 ▸ (S_put' (by decide) (zDy_a9 hd0))) ?_
    refine ex_step (pc' := 49) dX0_takeUp_48 rfl ?_
    refine ex_getr dX0_takeUp_49 wf_RX0_18 (zDy_o hd0) rfl (zDy_r3 hd0) ?_
    refine ex_step (pc' := 53) dX0_takeUp_52 rfl ?_
    refine ex_step (pc' := 54) dX0_takeUp_53 rfl ?_
    refine ex_getr dX0_takeUp_54 wf_RX0_18 (zDy_o hd0) rfl (zDy_r3 hd0) ?_
    refine ex_step (pc' := 58) dX0_takeUp_57 rfl ?_
    refine ex_callS (as := [.ref (d0 + 3), .int x1]) (st := [.int x1, .ref (d0 + 3)]) dX0_takeUp_58 zmX11_at zl_RX0_67 zsX11_at rfl (Nat.le_of_ble_eq_true rfl) (Nat.le_of_ble_eq_true rfl) (S_at' (by decide) (zDy_a3 hd0)) ?_
    refine ex_step (pc' := 62) (st' := [.int 1, .int (zat I3 (d0 + 3) 7 x1), .int x1, .ref (d0 + 3)]) dX0_takeUp_61 rfl ?_
    refine ex_step (pc' := 63) dX0_takeUp_62 rfl ?_
    obtain ⟨I4, eI4⟩ : ∃ q : zI, q = zpt I3 (d0 + 3) 7 x1 ((zat I3 (d0 + 3) 7 x1) - 1) := ⟨_, rfl⟩
    have h := h I4 eI4
    refine ex_callS (as := [.ref (d0 + 3), .int x1, .int ((zat I3 (d0 + 3) 7 x1) - 1)]) (st := []) dX0_takeUp_63 zmX11_put zl_RX0_91 zsX11_put rfl (Nat.le_of_ble_eq_true rfl) (Nat.le_of_ble_eq_true rfl) (eI4 ▸ (S_put' (by decide) (zDy_a3 hd0))) ?_
    refine ex_step (pc' := 67) dX0_takeUp_66 rfl ?_
    refine ex_getr dX0_takeUp_67 wf_RX0_9 (zDy_o hd0) rfl (zDy_r1 hd0) ?_
    refine ex_step (pc' := 71) dX0_takeUp_70 rfl ?_
    refine ex_step (pc' := 72) dX0_takeUp_71 rfl ?_
    refine ex_getr dX0_takeUp_72 wf_RX0_9 (zDy_o hd0) rfl (zDy_r1 hd0) ?_
    refine ex_step (pc' := 76) dX0_takeUp_75 rfl ?_
    refine ex_callS (as := [.ref (d0 + 1), .int x1]) (st := [.int x1, .ref (d0 + 1)]) dX0_takeUp_76 zmX11_at zl_RX0_67 zsX11_at rfl (Nat.le_of_ble_eq_true rfl) (Nat.le_of_ble_eq_true rfl) (S_at' (by decide) (zDy_a1 hd0)) ?_
    refine ex_gets dX0_takeUp_79 (Or.inl ⟨rfl, zg_RX0_95⟩) ?_
    refine ex_step (pc' := 83) dX0_takeUp_82 rfl ?_
    obtain ⟨v5, hc, h⟩ := h
    refine ex_callS (as := [.ref 1000001, .int (zat I (d0 + 5) 421 v2)]) (st := [.int (zat I4 (d0 + 1) 7 x1), .int x1, .ref (d0 + 1)]) dX0_takeUp_83 zmX11_at zl_RX0_67 zsX11_at rfl (Nat.le_of_ble_eq_true rfl) (Nat.le_of_ble_eq_true rfl) hc ?_
    refine ex_step (pc' := 87) dX0_takeUp_86 rfl ?_
    obtain ⟨I6, eI6⟩ : ∃ q : zI, q = zpt I4 (d0 + 1) 7 x1 ((zat I4 (d0 + 1) 7 x1) - v5) := ⟨_, rfl⟩
    have h := h I6 eI6
    refine ex_callS (as := [.ref (d0 + 1), .int x1, .int ((zat I4 (d0 + 1) 7 x1) - v5)]) (st := []) dX0_takeUp_87 zmX11_put zl_RX0_91 zsX11_put rfl (Nat.le_of_ble_eq_true rfl) (Nat.le_of_ble_eq_true rfl) (eI6 ▸ (S_put' (by decide) (zDy_a1 hd0))) ?_
    refine ex_step (pc' := 91) dX0_takeUp_90 rfl ?_
    refine ex_getr dX0_takeUp_91 wf_RX0_15 (zDy_o hd0) rfl (zDy_r2 hd0) ?_
    refine ex_step (pc' := 95) dX0_takeUp_94 rfl ?_
    refine ex_step (pc' := 96) dX0_takeUp_95 rfl ?_
    refine ex_getr dX0_takeUp_96 wf_RX0_15 (zDy_o hd0) rfl (zDy_r2 hd0) ?_
    refine ex_step (pc' := 100) dX0_takeUp_99 rfl ?_
    refine ex_callS (as := [.ref (d0 + 2), .int x1]) (st := [.int x1, .ref (d0 + 2)]) dX0_takeUp_100 zmX11_at zl_RX0_67 zsX11_at rfl (Nat.le_of_ble_eq_true rfl) (Nat.le_of_ble_eq_true rfl) (S_at' (by decide) (zDy_a2 hd0)) ?_
    refine ex_gets dX0_takeUp_103 (Or.inr ⟨rfl, zg_RX0_98⟩) ?_
    refine ex_step (pc' := 107) dX0_takeUp_106 rfl ?_
    obtain ⟨v7, hc, h⟩ := h
    refine ex_callS (as := [.ref 1000002, .int (zat I (d0 + 5) 421 v2)]) (st := [.int (zat I6 (d0 + 2) 7 x1), .int x1, .ref (d0 + 2)]) dX0_takeUp_107 zmX11_at zl_RX0_67 zsX11_at rfl (Nat.le_of_ble_eq_true rfl) (Nat.le_of_ble_eq_true rfl) hc ?_
    refine ex_step (pc' := 111) dX0_takeUp_110 rfl ?_
    obtain ⟨I8, eI8⟩ : ∃ q : zI, q = zpt I6 (d0 + 2) 7 x1 ((zat I6 (d0 + 2) 7 x1) - v7) := ⟨_, rfl⟩
    have h := h I8 eI8
    refine ex_callS (as := [.ref (d0 + 2), .int x1, .int ((zat I6 (d0 + 2) 7 x1) - v7)]) (st := []) dX0_takeUp_111 zmX11_put zl_RX0_91 zsX11_put rfl (Nat.le_of_ble_eq_true rfl) (Nat.le_of_ble_eq_true rfl) (eI8 ▸ (S_put' (by decide) (zDy_a2 hd0))) ?_
    refine ex_step (pc' := 115) (st' := [.int 1]) dX0_takeUp_114 rfl ?_
    rw [h]; exact ex_ret (v := some (.int 1)) ⟨dX0_takeUp_115, _, rfl, rfl⟩
  · have h := h.2 (Classical.not_not.mp c)
    refine ex_step (pc' := 9) (st' := [.int 0]) dX0_takeUp_8 rfl ?_
    rw [h]; exact ex_ret (v := some (.int 0)) ⟨dX0_takeUp_9, _, rfl, rfl⟩
set_option maxHeartbeats 4000000 in
theorem BX0_takeUpAll_0 {d : Nat} {Z : zZ} {I : zI} {J : zJ} {o : zO} {d0 : Nat} (x1 : Int32) (hd0 : zDy Z d0) (h : zE (d + 4) kX0_takeUpAll 4 [some (.ref d0), some (.int x1), some (.int 0), some (.int 0)] [] Z I J o) : zE (d + 4) kX0_takeUpAll 0 [some (.ref d0), some (.int x1), none, none] [] Z I J o := by
  refine ex_step (pc' := 1) (st' := [.int 0]) dX0_takeUpAll_0 rfl ?_
  refine ex_step (pc' := 2) (ls' := [some (.ref d0), some (.int x1), some (.int 0), none]) dX0_takeUpAll_1 rfl ?_
  refine ex_step (pc' := 3) (st' := [.int 0]) dX0_takeUpAll_2 rfl ?_
  refine ex_step (pc' := 4) (ls' := [some (.ref d0), some (.int x1), some (.int 0), some (.int 0)]) dX0_takeUpAll_3 rfl ?_
  exact h
set_option maxHeartbeats 4000000 in
theorem BX0_takeUpAll_4 {d : Nat} {Z : zZ} {I : zI} {J : zJ} {o : zO} {d0 : Nat} (x1 : Int32) (x2 : Int32) (x3 : Int32) (hd0 : zDy Z d0) (h : ((60 ≤ x3 → o = (some (.int x2), Z, I, J)) ∧ (¬ 60 ≤ x3 → (∃ (v1 : Int32) (I2 : zI), zE (d + 3) kX0_takeUp 0 [some (.ref d0), some (.int x1), none, none] [] Z I J (some (.int v1), Z, I2, J) ∧ ((v1 = 0 → o = (some (.int x2), Z, I2, J)) ∧ (¬ v1 = 0 → zE (d + 4) kX0_takeUpAll 4 [some (.ref d0), some (.int x1), some (.int (x2 + 1)), some (.int (x3 + 1))] [] Z I2 J o)))))) : zE (d + 4) kX0_takeUpAll 4 [some (.ref d0), some (.int x1), some (.int x2), some (.int x3)] [] Z I J o := by
  refine ex_step (pc' := 5) dX0_takeUpAll_4 rfl ?_
  refine ex_step (pc' := 7) (st' := [.int 60, .int x3]) dX0_takeUpAll_5 rfl ?_
  refine ex_icmp (pc' := 27) dX0_takeUpAll_7 (by decide) (fun c => ?_) (fun c => ?_)
  · have h := h.1 c
    refine ex_step (pc' := 28) dX0_takeUpAll_27 rfl ?_
    rw [h]; exact ex_ret (v := some (.int x2)) ⟨dX0_takeUpAll_28, _, rfl, rfl⟩
  · have h := h.2 c
    refine ex_step (pc' := 11) dX0_takeUpAll_10 rfl ?_
    refine ex_step (pc' := 12) dX0_takeUpAll_11 rfl ?_
    obtain ⟨v1, I2, hc, h⟩ := h
    refine ex_callV (as := [.int x1]) (st := []) (ci := 0) dX0_takeUpAll_12 zmX0_takeUp zl_RX0_109 ziX0_takeUp zvX0_takeUp (by decide) (zDy_o hd0) rfl (Nat.le_of_ble_eq_true rfl) (Nat.le_of_ble_eq_true rfl) hc ?_
    refine ex_if (pc' := 27) dX0_takeUpAll_15 (by decide) (fun c => ?_) (fun c => ?_)
    · have h := h.1 c
      refine ex_step (pc' := 28) dX0_takeUpAll_27 rfl ?_
      rw [h]; exact ex_ret (v := some (.int x2)) ⟨dX0_takeUpAll_28, _, rfl, rfl⟩
    · have h := h.2 c
      refine ex_step (pc' := 21) (ls' := [some (.ref d0), some (.int x1), some (.int (x2 + 1)), some (.int x3)]) dX0_takeUpAll_18 rfl ?_
      refine ex_step (pc' := 24) (ls' := [some (.ref d0), some (.int x1), some (.int (x2 + 1)), some (.int (x3 + 1))]) dX0_takeUpAll_21 rfl ?_
      refine ex_step (pc' := 4) dX0_takeUpAll_24 rfl ?_
      exact h
set_option maxHeartbeats 4000000 in
theorem BX0_lose_0 {d : Nat} {Z : zZ} {I : zI} {J : zJ} {o : zO} {d0 : Nat} (x1 : Int32) (hd0 : zDy Z d0) (h : (∀ y1 : Int32, y1 = ((zat I (d0 + 3) 7 x1) - 1) → zE (d + 2) kX0_lose 13 [some (.ref d0), some (.int x1), some (.int (zat I (d0 + 3) 7 x1)), some (.int y1)] [] Z I J o)) : zE (d + 2) kX0_lose 0 [some (.ref d0), some (.int x1), none, none] [] Z I J o := by
  refine ex_step (pc' := 1) dX0_lose_0 rfl ?_
  refine ex_getr dX0_lose_1 wf_RX0_18 (zDy_o hd0) rfl (zDy_r3 hd0) ?_
  refine ex_step (pc' := 5) dX0_lose_4 rfl ?_
  refine ex_callS (as := [.ref (d0 + 3), .int x1]) (st := []) dX0_lose_5 zmX11_at zl_RX0_67 zsX11_at rfl (Nat.le_of_ble_eq_true rfl) (Nat.le_of_ble_eq_true rfl) (S_at' (by decide) (zDy_a3 hd0)) ?_
  refine ex_step (pc' := 9) (ls' := [some (.ref d0), some (.int x1), some (.int (zat I (d0 + 3) 7 x1)), none]) dX0_lose_8 rfl ?_
  refine ex_step (pc' := 10) dX0_lose_9 rfl ?_
  refine ex_step (pc' := 11) (st' := [.int 1, .int (zat I (d0 + 3) 7 x1)]) dX0_lose_10 rfl ?_
  refine ex_step (pc' := 12) dX0_lose_11 rfl ?_
  refine ex_topi (fun y1 ey1 => ?_)
  have h := h y1 ey1
  refine ex_step (pc' := 13) (ls' := [some (.ref d0), some (.int x1), some (.int (zat I (d0 + 3) 7 x1)), some (.int y1)]) dX0_lose_12 rfl ?_
  exact h
set_option maxHeartbeats 4000000 in
theorem BX0_lose_13 {d : Nat} {Z : zZ} {I : zI} {J : zJ} {o : zO} {d0 : Nat} (x1 : Int32) (x2 : Int32) (x3 : Int32) (hd0 : zDy Z d0) (h : ((x3 < 0 → (∀ I1 : zI, I1 = zpt I (d0 + 3) 7 x1 0 → (∀ I2 : zI, I2 = zpt I1 (d0 + 4) 7 x1 1 → o = (some (.int x2), Z, I2, J)))) ∧ (¬ x3 < 0 → (∃ (I3 : zI), zE (d + 1) kX0_pullOut 0 [some (.ref d0), some (.int (zpc x1 x3)), none, none, none] [] Z I J (none, Z, I3, J) ∧ zE (d + 2) kX0_lose 13 [some (.ref d0), some (.int x1), some (.int x2), some (.int (x3 + (-1)))] [] Z I3 J o)))) : zE (d + 2) kX0_lose 13 [some (.ref d0), some (.int x1), some (.int x2), some (.int x3)] [] Z I J o := by
  refine ex_step (pc' := 14) dX0_lose_13 rfl ?_
  refine ex_if (pc' := 32) dX0_lose_14 (by decide) (fun c => ?_) (fun c => ?_)
  · have h := h.1 c
    refine ex_step (pc' := 33) dX0_lose_32 rfl ?_
    refine ex_getr dX0_lose_33 wf_RX0_18 (zDy_o hd0) rfl (zDy_r3 hd0) ?_
    refine ex_step (pc' := 37) dX0_lose_36 rfl ?_
    refine ex_step (pc' := 38) (st' := [.int 0, .int x1, .ref (d0 + 3)]) dX0_lose_37 rfl ?_
    obtain ⟨I1, eI1⟩ : ∃ q : zI, q = zpt I (d0 + 3) 7 x1 0 := ⟨_, rfl⟩
    have h := h I1 eI1
    refine ex_callS (as := [.ref (d0 + 3), .int x1, .int 0]) (st := []) dX0_lose_38 zmX11_put zl_RX0_91 zsX11_put rfl (Nat.le_of_ble_eq_true rfl) (Nat.le_of_ble_eq_true rfl) (eI1 ▸ (S_put' (by decide) (zDy_a3 hd0))) ?_
    refine ex_step (pc' := 42) dX0_lose_41 rfl ?_
    refine ex_getr dX0_lose_42 wf_RX0_21 (zDy_o hd0) rfl (zDy_r4 hd0) ?_
    refine ex_step (pc' := 46) dX0_lose_45 rfl ?_
    refine ex_step (pc' := 47) (st' := [.int 1, .int x1, .ref (d0 + 4)]) dX0_lose_46 rfl ?_
    obtain ⟨I2, eI2⟩ : ∃ q : zI, q = zpt I1 (d0 + 4) 7 x1 1 := ⟨_, rfl⟩
    have h := h I2 eI2
    refine ex_callS (as := [.ref (d0 + 4), .int x1, .int 1]) (st := []) dX0_lose_47 zmX11_put zl_RX0_91 zsX11_put rfl (Nat.le_of_ble_eq_true rfl) (Nat.le_of_ble_eq_true rfl) (eI2 ▸ (S_put' (by decide) (zDy_a4 hd0))) ?_
    refine ex_step (pc' := 51) dX0_lose_50 rfl ?_
    rw [h]; exact ex_ret (v := some (.int x2)) ⟨dX0_lose_51, _, rfl, rfl⟩
  · have h := h.2 c
    refine ex_step (pc' := 18) dX0_lose_17 rfl ?_
    refine ex_step (pc' := 19) dX0_lose_18 rfl ?_
    refine ex_step (pc' := 20) dX0_lose_19 rfl ?_
    refine ex_callS (as := [.int x1, .int x3]) (st := [.ref d0]) dX0_lose_20 zmX11_pieceOf zl_RX0_83 zsX11_pieceOf rfl (Nat.le_of_ble_eq_true rfl) (Nat.le_of_ble_eq_true rfl) S_pieceOf ?_
    obtain ⟨I3, hc, h⟩ := h
    refine ex_callV (as := [.int (zpc x1 x3)]) (st := []) (ci := 0) dX0_lose_23 zmX0_pullOut zl_RX0_112 ziX0_pullOut zvX0_pullOut (by decide) (zDy_o hd0) rfl (Nat.le_of_ble_eq_true rfl) (Nat.le_of_ble_eq_true rfl) hc ?_
    refine ex_step (pc' := 29) (ls' := [some (.ref d0), some (.int x1), some (.int x2), some (.int (x3 + (-1)))]) dX0_lose_26 rfl ?_
    refine ex_step (pc' := 13) dX0_lose_29 rfl ?_
    exact h
set_option maxHeartbeats 4000000 in
theorem BX0_pullOut_0 {d : Nat} {Z : zZ} {I : zI} {J : zJ} {o : zO} {d0 : Nat} (x1 : Int32) (hd0 : zDy Z d0) (h : (∀ y1 : Int32, y1 = (zat I (d0 + 9) 288 (zat I (d0 + 6) 421 x1)) → ((¬ y1 = x1 → zE (d + 1) kX0_pullOut 43 [some (.ref d0), some (.int x1), none, some (.int y1), some (.int 0)] [] Z I J o) ∧ (y1 = x1 → (∀ I2 : zI, I2 = zpt I (d0 + 9) 288 (zat I (d0 + 6) 421 x1) (zat I (d0 + 7) 421 x1) → o = (none, Z, I2, J)))))) : zE (d + 1) kX0_pullOut 0 [some (.ref d0), some (.int x1), none, none, none] [] Z I J o := by
  refine ex_step (pc' := 1) dX0_pullOut_0 rfl ?_
  refine ex_getr dX0_pullOut_1 wf_RX0_27 (zDy_o hd0) rfl (zDy_r6 hd0) ?_
  refine ex_step (pc' := 5) dX0_pullOut_4 rfl ?_
  refine ex_callS (as := [.ref (d0 + 6), .int x1]) (st := []) dX0_pullOut_5 zmX11_at zl_RX0_67 zsX11_at rfl (Nat.le_of_ble_eq_true rfl) (Nat.le_of_ble_eq_true rfl) (S_at' (by decide) (zDy_a6 hd0)) ?_
  refine ex_step (pc' := 9) (ls' := [some (.ref d0), some (.int x1), some (.int (zat I (d0 + 6) 421 x1)), none, none]) dX0_pullOut_8 rfl ?_
  refine ex_step (pc' := 10) dX0_pullOut_9 rfl ?_
  refine ex_getr dX0_pullOut_10 wf_RX0_36 (zDy_o hd0) rfl (zDy_r9 hd0) ?_
  refine ex_step (pc' := 14) dX0_pullOut_13 rfl ?_
  refine ex_callS (as := [.ref (d0 + 9), .int (zat I (d0 + 6) 421 x1)]) (st := []) dX0_pullOut_14 zmX11_at zl_RX0_67 zsX11_at rfl (Nat.le_of_ble_eq_true rfl) (Nat.le_of_ble_eq_true rfl) (S_at' (by decide) (zDy_a9 hd0)) ?_
  refine ex_topi (fun y1 ey1 => ?_)
  have h := h y1 ey1
  refine ex_step (pc' := 18) (ls' := [some (.ref d0), some (.int x1), some (.int (zat I (d0 + 6) 421 x1)), some (.int y1), none]) dX0_pullOut_17 rfl ?_
  refine ex_step (pc' := 19) dX0_pullOut_18 rfl ?_
  refine ex_step (pc' := 20) dX0_pullOut_19 rfl ?_
  refine ex_icmp (pc' := 40) dX0_pullOut_20 (by decide) (fun c => ?_) (fun c => ?_)
  · have h := h.1 c
    refine ex_step (pc' := 41) (st' := [.int 0]) dX0_pullOut_40 rfl ?_
    refine ex_step (pc' := 43) (ls' := [some (.ref d0), some (.int x1), some (.int (zat I (d0 + 6) 421 x1)), some (.int y1), some (.int 0)]) dX0_pullOut_41 rfl ?_
    exact ex_less (ls' := [some (.ref d0), some (.int x1), none, some (.int y1), some (.int 0)]) ⟨rfl, ⟨rfl, ⟨rfl, ⟨rfl, trivial⟩⟩⟩⟩ h
  · have h := h.2 (Classical.not_not.mp c)
    refine ex_step (pc' := 24) dX0_pullOut_23 rfl ?_
    refine ex_getr dX0_pullOut_24 wf_RX0_36 (zDy_o hd0) rfl (zDy_r9 hd0) ?_
    refine ex_step (pc' := 28) dX0_pullOut_27 rfl ?_
    refine ex_step (pc' := 29) dX0_pullOut_28 rfl ?_
    refine ex_getr dX0_pullOut_29 wf_RX0_30 (zDy_o hd0) rfl (zDy_r7 hd0) ?_
    refine ex_step (pc' := 33) dX0_pullOut_32 rfl ?_
    refine ex_callS (as := [.ref (d0 + 7), .int x1]) (st := [.int (zat I (d0 + 6) 421 x1), .ref (d0 + 9)]) dX0_pullOut_33 zmX11_at zl_RX0_67 zsX11_at rfl (Nat.le_of_ble_eq_true rfl) (Nat.le_of_ble_eq_true rfl) (S_at' (by decide) (zDy_a7 hd0)) ?_
    obtain ⟨I2, eI2⟩ : ∃ q : zI, q = zpt I (d0 + 9) 288 (zat I (d0 + 6) 421 x1) (zat I (d0 + 7) 421 x1) := ⟨_, rfl⟩
    have h := h I2 eI2
    refine ex_callS (as := [.ref (d0 + 9), .int (zat I (d0 + 6) 421 x1), .int (zat I (d0 + 7) 421 x1)]) (st := []) dX0_pullOut_36 zmX11_put zl_RX0_91 zsX11_put rfl (Nat.le_of_ble_eq_true rfl) (Nat.le_of_ble_eq_true rfl) (eI2 ▸ (S_put' (by decide) (zDy_a9 hd0))) ?_
    rw [h]; exact ex_ret (v := none) ⟨dX0_pullOut_39, rfl⟩
set_option maxHeartbeats 4000000 in
theorem BX0_pullOut_43 {d : Nat} {Z : zZ} {I : zI} {J : zJ} {o : zO} {d0 : Nat} (x1 : Int32) (x3 : Int32) (x4 : Int32) (hd0 : zDy Z d0) (h : ((420 ≤ x4 → (∀ I1 : zI, I1 = zpt I (d0 + 7) 421 x3 (zat I (d0 + 7) 421 x1) → o = (none, Z, I1, J))) ∧ (¬ 420 ≤ x4 → ((x3 = 0 → (∀ I2 : zI, I2 = zpt I (d0 + 7) 421 x3 (zat I (d0 + 7) 421 x1) → o = (none, Z, I2, J))) ∧ (¬ x3 = 0 → (((zat I (d0 + 7) 421 x3) = x1 → (∀ I3 : zI, I3 = zpt I (d0 + 7) 421 x3 (zat I (d0 + 7) 421 x1) → o = (none, Z, I3, J))) ∧ (¬ (zat I (d0 + 7) 421 x3) = x1 → zE (d + 1) kX0_pullOut 43 [some (.ref d0), some (.int x1), none, some (.int (zat I (d0 + 7) 421 x3)), some (.int (x4 + 1))] [] Z I J o))))))) : zE (d + 1) kX0_pullOut 43 [some (.ref d0), some (.int x1), none, some (.int x3), some (.int x4)] [] Z I J o := by
  refine ex_step (pc' := 45) dX0_pullOut_43 rfl ?_
  refine ex_step (pc' := 48) (st' := [.int 420, .int x4]) dX0_pullOut_45 rfl ?_
  refine ex_icmp (pc' := 82) dX0_pullOut_48 (by decide) (fun c => ?_) (fun c => ?_)
  · have h := h.1 c
    refine ex_step (pc' := 83) dX0_pullOut_82 rfl ?_
    refine ex_getr dX0_pullOut_83 wf_RX0_30 (zDy_o hd0) rfl (zDy_r7 hd0) ?_
    refine ex_step (pc' := 87) dX0_pullOut_86 rfl ?_
    refine ex_step (pc' := 88) dX0_pullOut_87 rfl ?_
    refine ex_getr dX0_pullOut_88 wf_RX0_30 (zDy_o hd0) rfl (zDy_r7 hd0) ?_
    refine ex_step (pc' := 92) dX0_pullOut_91 rfl ?_
    refine ex_callS (as := [.ref (d0 + 7), .int x1]) (st := [.int x3, .ref (d0 + 7)]) dX0_pullOut_92 zmX11_at zl_RX0_67 zsX11_at rfl (Nat.le_of_ble_eq_true rfl) (Nat.le_of_ble_eq_true rfl) (S_at' (by decide) (zDy_a7 hd0)) ?_
    obtain ⟨I1, eI1⟩ : ∃ q : zI, q = zpt I (d0 + 7) 421 x3 (zat I (d0 + 7) 421 x1) := ⟨_, rfl⟩
    have h := h I1 eI1
    refine ex_callS (as := [.ref (d0 + 7), .int x3, .int (zat I (d0 + 7) 421 x1)]) (st := []) dX0_pullOut_95 zmX11_put zl_RX0_91 zsX11_put rfl (Nat.le_of_ble_eq_true rfl) (Nat.le_of_ble_eq_true rfl) (eI1 ▸ (S_put' (by decide) (zDy_a7 hd0))) ?_
    rw [h]; exact ex_ret (v := none) ⟨dX0_pullOut_98, rfl⟩
  · have h := h.2 c
    refine ex_step (pc' := 52) dX0_pullOut_51 rfl ?_
    refine ex_if (pc' := 82) dX0_pullOut_52 (by decide) (fun c => ?_) (fun c => ?_)
    · have h := h.1 c
      refine ex_step (pc' := 83) dX0_pullOut_82 rfl ?_
      refine ex_getr dX0_pullOut_83 wf_RX0_30 (zDy_o hd0) rfl (zDy_r7 hd0) ?_
      refine ex_step (pc' := 87) dX0_pullOut_86 rfl ?_
      refine ex_step (pc' := 88) dX0_pullOut_87 rfl ?_
      refine ex_getr dX0_pullOut_88 wf_RX0_30 (zDy_o hd0) rfl (zDy_r7 hd0) ?_
      refine ex_step (pc' := 92) dX0_pullOut_91 rfl ?_
      refine ex_callS (as := [.ref (d0 + 7), .int x1]) (st := [.int x3, .ref (d0 + 7)]) dX0_pullOut_92 zmX11_at zl_RX0_67 zsX11_at rfl (Nat.le_of_ble_eq_true rfl) (Nat.le_of_ble_eq_true rfl) (S_at' (by decide) (zDy_a7 hd0)) ?_
      obtain ⟨I2, eI2⟩ : ∃ q : zI, q = zpt I (d0 + 7) 421 x3 (zat I (d0 + 7) 421 x1) := ⟨_, rfl⟩
      have h := h I2 eI2
      refine ex_callS (as := [.ref (d0 + 7), .int x3, .int (zat I (d0 + 7) 421 x1)]) (st := []) dX0_pullOut_95 zmX11_put zl_RX0_91 zsX11_put rfl (Nat.le_of_ble_eq_true rfl) (Nat.le_of_ble_eq_true rfl) (eI2 ▸ (S_put' (by decide) (zDy_a7 hd0))) ?_
      rw [h]; exact ex_ret (v := none) ⟨dX0_pullOut_98, rfl⟩
    · have h := h.2 c
      refine ex_step (pc' := 56) dX0_pullOut_55 rfl ?_
      refine ex_getr dX0_pullOut_56 wf_RX0_30 (zDy_o hd0) rfl (zDy_r7 hd0) ?_
      refine ex_step (pc' := 60) dX0_pullOut_59 rfl ?_
      refine ex_callS (as := [.ref (d0 + 7), .int x3]) (st := []) dX0_pullOut_60 zmX11_at zl_RX0_67 zsX11_at rfl (Nat.le_of_ble_eq_true rfl) (Nat.le_of_ble_eq_true rfl) (S_at' (by decide) (zDy_a7 hd0)) ?_
      refine ex_step (pc' := 64) dX0_pullOut_63 rfl ?_
      refine ex_icmp (pc' := 82) dX0_pullOut_64 (by decide) (fun c => ?_) (fun c => ?_)
      · have h := h.1 c
        refine ex_step (pc' := 83) dX0_pullOut_82 rfl ?_
        refine ex_getr dX0_pullOut_83 wf_RX0_30 (zDy_o hd0) rfl (zDy_r7 hd0) ?_
        refine ex_step (pc' := 87) dX0_pullOut_86 rfl ?_
        refine ex_step (pc' := 88) dX0_pullOut_87 rfl ?_
        refine ex_getr dX0_pullOut_88 wf_RX0_30 (zDy_o hd0) rfl (zDy_r7 hd0) ?_
        refine ex_step (pc' := 92) dX0_pullOut_91 rfl ?_
        refine ex_callS (as := [.ref (d0 + 7), .int x1]) (st := [.int x3, .ref (d0 + 7)]) dX0_pullOut_92 zmX11_at zl_RX0_67 zsX11_at rfl (Nat.le_of_ble_eq_true rfl) (Nat.le_of_ble_eq_true rfl) (S_at' (by decide) (zDy_a7 hd0)) ?_
        obtain ⟨I3, eI3⟩ : ∃ q : zI, q = zpt I (d0 + 7) 421 x3 (zat I (d0 + 7) 421 x1) := ⟨_, rfl⟩
        have h := h I3 eI3
        refine ex_callS (as := [.ref (d0 + 7), .int x3, .int (zat I (d0 + 7) 421 x1)]) (st := []) dX0_pullOut_95 zmX11_put zl_RX0_91 zsX11_put rfl (Nat.le_of_ble_eq_true rfl) (Nat.le_of_ble_eq_true rfl) (eI3 ▸ (S_put' (by decide) (zDy_a7 hd0))) ?_
        rw [h]; exact ex_ret (v := none) ⟨dX0_pullOut_98, rfl⟩
      · have h := h.2 c
        refine ex_step (pc' := 68) dX0_pullOut_67 rfl ?_
        refine ex_getr dX0_pullOut_68 wf_RX0_30 (zDy_o hd0) rfl (zDy_r7 hd0) ?_
        refine ex_step (pc' := 72) dX0_pullOut_71 rfl ?_
        refine ex_callS (as := [.ref (d0 + 7), .int x3]) (st := []) dX0_pullOut_72 zmX11_at zl_RX0_67 zsX11_at rfl (Nat.le_of_ble_eq_true rfl) (Nat.le_of_ble_eq_true rfl) (S_at' (by decide) (zDy_a7 hd0)) ?_
        refine ex_step (pc' := 76) (ls' := [some (.ref d0), some (.int x1), none, some (.int (zat I (d0 + 7) 421 x3)), some (.int x4)]) dX0_pullOut_75 rfl ?_
        refine ex_step (pc' := 79) (ls' := [some (.ref d0), some (.int x1), none, some (.int (zat I (d0 + 7) 421 x3)), some (.int (x4 + 1))]) dX0_pullOut_76 rfl ?_
        refine ex_step (pc' := 43) dX0_pullOut_79 rfl ?_
        exact h
set_option maxHeartbeats 4000000 in
theorem BX0_wants_0 {d : Nat} {Z : zZ} {I : zI} {J : zJ} {o : zO} {d0 : Nat} {t1 : Nat} (x2 : Int32) (x3 : Int32) (hd0 : zDy Z d0) (ht1 : zTx Z t1) (h : (((zat I (d0 + 4) 7 x2) = 0 → (∃ (v1 : Int32), zE (d + 2) kX0_left 0 [some (.ref d0), some (.ref t1), some (.int x2)] [] Z I J (some (.int v1), Z, I, J) ∧ (∃ (v2 : Int32) (I3 : zI), zE (d + 2) kX6_goesAt 0 [some (.ref t1), some (.int x2), some (.int (zat I (d0 + 1) 7 x2)), some (.int (zat I (d0 + 2) 7 x2)), some (.int x3), some (.int v1), none, none] [] Z I J (some (.int v2), Z, I3, J) ∧ o = (some (.int v2), Z, I3, J)))) ∧ (¬ (zat I (d0 + 4) 7 x2) = 0 → o = (some (.int 0), Z, I, J)))) : zE (d + 3) kX0_wants 0 [some (.ref d0), some (.ref t1), some (.int x2), some (.int x3)] [] Z I J o := by
  refine ex_step (pc' := 1) dX0_wants_0 rfl ?_
  refine ex_getr dX0_wants_1 wf_RX0_21 (zDy_o hd0) rfl (zDy_r4 hd0) ?_
  refine ex_step (pc' := 5) dX0_wants_4 rfl ?_
  refine ex_callS (as := [.ref (d0 + 4), .int x2]) (st := []) dX0_wants_5 zmX11_at zl_RX0_67 zsX11_at rfl (Nat.le_of_ble_eq_true rfl) (Nat.le_of_ble_eq_true rfl) (S_at' (by decide) (zDy_a4 hd0)) ?_
  refine ex_if (pc' := 13) dX0_wants_8 (by decide) (fun c => ?_) (fun c => ?_)
  · have h := h.1 c
    refine ex_step (pc' := 14) dX0_wants_13 rfl ?_
    refine ex_step (pc' := 15) dX0_wants_14 rfl ?_
    refine ex_step (pc' := 16) dX0_wants_15 rfl ?_
    refine ex_getr dX0_wants_16 wf_RX0_9 (zDy_o hd0) rfl (zDy_r1 hd0) ?_
    refine ex_step (pc' := 20) dX0_wants_19 rfl ?_
    refine ex_callS (as := [.ref (d0 + 1), .int x2]) (st := [.int x2, .ref t1]) dX0_wants_20 zmX11_at zl_RX0_67 zsX11_at rfl (Nat.le_of_ble_eq_true rfl) (Nat.le_of_ble_eq_true rfl) (S_at' (by decide) (zDy_a1 hd0)) ?_
    refine ex_step (pc' := 24) dX0_wants_23 rfl ?_
    refine ex_getr dX0_wants_24 wf_RX0_15 (zDy_o hd0) rfl (zDy_r2 hd0) ?_
    refine ex_step (pc' := 28) dX0_wants_27 rfl ?_
    refine ex_callS (as := [.ref (d0 + 2), .int x2]) (st := [.int (zat I (d0 + 1) 7 x2), .int x2, .ref t1]) dX0_wants_28 zmX11_at zl_RX0_67 zsX11_at rfl (Nat.le_of_ble_eq_true rfl) (Nat.le_of_ble_eq_true rfl) (S_at' (by decide) (zDy_a2 hd0)) ?_
    refine ex_step (pc' := 32) dX0_wants_31 rfl ?_
    refine ex_step (pc' := 33) dX0_wants_32 rfl ?_
    refine ex_step (pc' := 34) dX0_wants_33 rfl ?_
    refine ex_step (pc' := 35) dX0_wants_34 rfl ?_
    obtain ⟨v1, hc, h⟩ := h
    refine ex_callV (as := [.ref t1, .int x2]) (st := [.int x3, .int (zat I (d0 + 2) 7 x2), .int (zat I (d0 + 1) 7 x2), .int x2, .ref t1]) (ci := 0) dX0_wants_35 zmX0_left zl_RX0_71 ziX0_left zvX0_left (by decide) (zDy_o hd0) rfl (Nat.le_of_ble_eq_true rfl) (Nat.le_of_ble_eq_true rfl) hc ?_
    obtain ⟨v2, I3, hc, h⟩ := h
    refine ex_callV (as := [.int x2, .int (zat I (d0 + 1) 7 x2), .int (zat I (d0 + 2) 7 x2), .int x3, .int v1]) (st := []) (ci := 6) dX0_wants_38 zmX6_goesAt zl_RX0_116 ziX6_goesAt zvX6_goesAt (by decide) (zTx_o ht1) rfl (Nat.le_of_ble_eq_true rfl) (Nat.le_of_ble_eq_true rfl) hc ?_
    rw [h]; exact ex_ret (v := some (.int v2)) ⟨dX0_wants_41, _, rfl, rfl⟩
  · have h := h.2 c
    refine ex_step (pc' := 12) (st' := [.int 0]) dX0_wants_11 rfl ?_
    rw [h]; exact ex_ret (v := some (.int 0)) ⟨dX0_wants_12, _, rfl, rfl⟩
set_option maxHeartbeats 4000000 in
theorem BX0_act_0 {d : Nat} {Z : zZ} {I : zI} {J : zJ} {o : zO} {d0 : Nat} {t1 : Nat} (x2 : Int32) (x3 : Int32) (hd0 : zDy Z d0) (ht1 : zTx Z t1) (h : (∃ (v1 : Int32) (I2 : zI), zE (d + 3) kX0_wants 0 [some (.ref d0), some (.ref t1), some (.int x2), some (.int x3)] [] Z I J (some (.int v1), Z, I2, J) ∧ ((¬ v1 = 5 → ((v1 ≤ 0 → o = (none, Z, I2, J)) ∧ (¬ v1 ≤ 0 → (∃ (I3 : zI), zE (d + 3) kX0_lay 0 [some (.ref d0), some (.ref t1), some (.int x2), some (.int v1), none, none] [] Z I2 J (none, Z, I3, J) ∧ o = (none, Z, I3, J))))) ∧ (v1 = 5 → (∃ (v4 : Int32) (I5 : zI), zE (d + 3) kX0_takeUp 0 [some (.ref d0), some (.int x2), none, none] [] Z I2 J (some (.int v4), Z, I5, J) ∧ o = (none, Z, I5, J)))))) : zE (d + 4) kX0_act 0 [some (.ref d0), some (.ref t1), some (.int x2), some (.int x3), none] [] Z I J o := by
  refine ex_step (pc' := 1) dX0_act_0 rfl ?_
  refine ex_step (pc' := 2) dX0_act_1 rfl ?_
  refine ex_step (pc' := 3) dX0_act_2 rfl ?_
  refine ex_step (pc' := 4) dX0_act_3 rfl ?_
  obtain ⟨v1, I2, hc, h⟩ := h
  refine ex_callV (as := [.ref t1, .int x2, .int x3]) (st := []) (ci := 0) dX0_act_4 zmX0_wants zl_RX0_120 ziX0_wants zvX0_wants (by decide) (zDy_o hd0) rfl (Nat.le_of_ble_eq_true rfl) (Nat.le_of_ble_eq_true rfl) hc ?_
  refine ex_step (pc' := 9) (ls' := [some (.ref d0), some (.ref t1), some (.int x2), some (.int x3), some (.int v1)]) dX0_act_7 rfl ?_
  refine ex_step (pc' := 11) dX0_act_9 rfl ?_
  refine ex_step (pc' := 12) (st' := [.int 5, .int v1]) dX0_act_11 rfl ?_
  refine ex_icmp (pc' := 24) dX0_act_12 (by decide) (fun c => ?_) (fun c => ?_)
  · have h := h.1 c
    refine ex_step (pc' := 26) dX0_act_24 rfl ?_
    refine ex_if (pc' := 37) dX0_act_26 (by decide) (fun c => ?_) (fun c => ?_)
    · have h := h.1 c
      rw [h]; exact ex_ret (v := none) ⟨dX0_act_37, rfl⟩
    · have h := h.2 c
      refine ex_step (pc' := 30) dX0_act_29 rfl ?_
      refine ex_step (pc' := 31) dX0_act_30 rfl ?_
      refine ex_step (pc' := 32) dX0_act_31 rfl ?_
      refine ex_step (pc' := 34) dX0_act_32 rfl ?_
      obtain ⟨I3, hc, h⟩ := h
      refine ex_callV (as := [.ref t1, .int x2, .int v1]) (st := []) (ci := 0) dX0_act_34 zmX0_lay zl_RX0_124 ziX0_lay zvX0_lay (by decide) (zDy_o hd0) rfl (Nat.le_of_ble_eq_true rfl) (Nat.le_of_ble_eq_true rfl) hc ?_
      rw [h]; exact ex_ret (v := none) ⟨dX0_act_37, rfl⟩
  · have h := h.2 (Classical.not_not.mp c)
    refine ex_step (pc' := 16) dX0_act_15 rfl ?_
    refine ex_step (pc' := 17) dX0_act_16 rfl ?_
    obtain ⟨v4, I5, hc, h⟩ := h
    refine ex_callV (as := [.int x2]) (st := []) (ci := 0) dX0_act_17 zmX0_takeUp zl_RX0_109 ziX0_takeUp zvX0_takeUp (by decide) (zDy_o hd0) rfl (Nat.le_of_ble_eq_true rfl) (Nat.le_of_ble_eq_true rfl) hc ?_
    refine ex_step (pc' := 21) dX0_act_20 rfl ?_
    refine ex_step (pc' := 37) dX0_act_21 rfl ?_
    rw [h]; exact ex_ret (v := none) ⟨dX0_act_37, rfl⟩
set_option maxHeartbeats 4000000 in
theorem BX0_goBy_0 {d : Nat} {Z : zZ} {I : zI} {J : zJ} {o : zO} {d0 : Nat} {t1 : Nat} (hd0 : zDy Z d0) (ht1 : zTx Z t1) (h : zE (d + 5) kX0_goBy 2 [some (.ref d0), some (.ref t1), some (.int 0)] [] Z I J o) : zE (d + 5) kX0_goBy 0 [some (.ref d0), some (.ref t1), none] [] Z I J o := by
  refine ex_step (pc' := 1) (st' := [.int 0]) dX0_goBy_0 rfl ?_
  refine ex_step (pc' := 2) (ls' := [some (.ref d0), some (.ref t1), some (.int 0)]) dX0_goBy_1 rfl ?_
  exact h
set_option maxHeartbeats 4000000 in
theorem BX0_goBy_2 {d : Nat} {Z : zZ} {I : zI} {J : zJ} {o : zO} {d0 : Nat} {t1 : Nat} (x2 : Int32) (hd0 : zDy Z d0) (ht1 : zTx Z t1) (h : (((I t1 2) ≤ x2 → (∀ I1 : zI, I1 = zu I d0 0 ((I d0 0) + 1) → o = (none, Z, I1, J))) ∧ (¬ (I t1 2) ≤ x2 → (∃ (I2 : zI), zE (d + 4) kX0_act 0 [some (.ref d0), some (.ref t1), some (.int x2), some (.int (I d0 0)), none] [] Z I J (none, Z, I2, J) ∧ zE (d + 5) kX0_goBy 2 [some (.ref d0), some (.ref t1), some (.int (x2 + 1))] [] Z I2 J o)))) : zE (d + 5) kX0_goBy 2 [some (.ref d0), some (.ref t1), some (.int x2)] [] Z I J o := by
  refine ex_step (pc' := 3) dX0_goBy_2 rfl ?_
  refine ex_step (pc' := 4) dX0_goBy_3 rfl ?_
  refine ex_geti dX0_goBy_4 wf_RX0_128 (zTx_o ht1) rfl ?_
  refine ex_icmp (pc' := 26) dX0_goBy_7 (by decide) (fun c => ?_) (fun c => ?_)
  · have h := h.1 c
    refine ex_step (pc' := 27) dX0_goBy_26 rfl ?_
    refine ex_step (pc' := 28) dX0_goBy_27 rfl ?_
    refine ex_geti dX0_goBy_28 wf_RX0_39 (zDy_o hd0) rfl ?_
    refine ex_step (pc' := 32) (st' := [.int 1, .int (I d0 0), .ref d0]) dX0_goBy_31 rfl ?_
    refine ex_step (pc' := 33) dX0_goBy_32 rfl ?_
    refine ex_putiN dX0_goBy_33 (wp_RX0_39 _) (zDy_o hd0) rfl ⟨rfl, rfl⟩ (fun I1 eI1 => ?_)
    have h := h I1 eI1
    rw [h]; exact ex_ret (v := none) ⟨dX0_goBy_36, rfl⟩
  · have h := h.2 c
    refine ex_step (pc' := 11) dX0_goBy_10 rfl ?_
    refine ex_step (pc' := 12) dX0_goBy_11 rfl ?_
    refine ex_step (pc' := 13) dX0_goBy_12 rfl ?_
    refine ex_step (pc' := 14) dX0_goBy_13 rfl ?_
    refine ex_geti dX0_goBy_14 wf_RX0_39 (zDy_o hd0) rfl ?_
    obtain ⟨I2, hc, h⟩ := h
    refine ex_callV (as := [.ref t1, .int x2, .int (I d0 0)]) (st := []) (ci := 0) dX0_goBy_17 zmX0_act zl_RX0_131 ziX0_act zvX0_act (by decide) (zDy_o hd0) rfl (Nat.le_of_ble_eq_true rfl) (Nat.le_of_ble_eq_true rfl) hc ?_
    refine ex_step (pc' := 23) (ls' := [some (.ref d0), some (.ref t1), some (.int (x2 + 1))]) dX0_goBy_20 rfl ?_
    refine ex_step (pc' := 2) dX0_goBy_23 rfl ?_
    exact h
set_option maxHeartbeats 4000000 in
theorem BX0_countUnder_0 {d : Nat} {Z : zZ} {I : zI} {J : zJ} {o : zO} {d0 : Nat} (x1 : Int32) (hd0 : zDy Z d0) (h : zE (d + 1) kX0_countUnder 14 [some (.ref d0), none, some (.int 0), some (.int (zat I (d0 + 7) 421 x1)), some (.int 0)] [] Z I J o) : zE (d + 1) kX0_countUnder 0 [some (.ref d0), some (.int x1), none, none, none] [] Z I J o := by
  refine ex_step (pc' := 1) (st' := [.int 0]) dX0_countUnder_0 rfl ?_
  refine ex_step (pc' := 2) (ls' := [some (.ref d0), some (.int x1), some (.int 0), none, none]) dX0_countUnder_1 rfl ?_
  refine ex_step (pc' := 3) dX0_countUnder_2 rfl ?_
  refine ex_getr dX0_countUnder_3 wf_RX0_30 (zDy_o hd0) rfl (zDy_r7 hd0) ?_
  refine ex_step (pc' := 7) dX0_countUnder_6 rfl ?_
  refine ex_callS (as := [.ref (d0 + 7), .int x1]) (st := []) dX0_countUnder_7 zmX11_at zl_RX0_67 zsX11_at rfl (Nat.le_of_ble_eq_true rfl) (Nat.le_of_ble_eq_true rfl) (S_at' (by decide) (zDy_a7 hd0)) ?_
  refine ex_step (pc' := 11) (ls' := [some (.ref d0), some (.int x1), some (.int 0), some (.int (zat I (d0 + 7) 421 x1)), none]) dX0_countUnder_10 rfl ?_
  refine ex_step (pc' := 12) (st' := [.int 0]) dX0_countUnder_11 rfl ?_
  refine ex_step (pc' := 14) (ls' := [some (.ref d0), some (.int x1), some (.int 0), some (.int (zat I (d0 + 7) 421 x1)), some (.int 0)]) dX0_countUnder_12 rfl ?_
  exact ex_less (ls' := [some (.ref d0), none, some (.int 0), some (.int (zat I (d0 + 7) 421 x1)), some (.int 0)]) ⟨rfl, ⟨rfl, ⟨rfl, ⟨rfl, trivial⟩⟩⟩⟩ h
set_option maxHeartbeats 4000000 in
theorem BX0_countUnder_14 {d : Nat} {Z : zZ} {I : zI} {J : zJ} {o : zO} {d0 : Nat} (x2 : Int32) (x3 : Int32) (x4 : Int32) (hd0 : zDy Z d0) (h : ((420 ≤ x4 → o = (some (.int x2), Z, I, J)) ∧ (¬ 420 ≤ x4 → ((x3 = 0 → o = (some (.int x2), Z, I, J)) ∧ (¬ x3 = 0 → zE (d + 1) kX0_countUnder 14 [some (.ref d0), none, some (.int (x2 + 1)), some (.int (zat I (d0 + 7) 421 x3)), some (.int (x4 + 1))] [] Z I J o))))) : zE (d + 1) kX0_countUnder 14 [some (.ref d0), none, some (.int x2), some (.int x3), some (.int x4)] [] Z I J o := by
  refine ex_step (pc' := 16) dX0_countUnder_14 rfl ?_
  refine ex_step (pc' := 19) (st' := [.int 420, .int x4]) dX0_countUnder_16 rfl ?_
  refine ex_icmp (pc' := 44) dX0_countUnder_19 (by decide) (fun c => ?_) (fun c => ?_)
  · have h := h.1 c
    refine ex_step (pc' := 45) dX0_countUnder_44 rfl ?_
    rw [h]; exact ex_ret (v := some (.int x2)) ⟨dX0_countUnder_45, _, rfl, rfl⟩
  · have h := h.2 c
    refine ex_step (pc' := 23) dX0_countUnder_22 rfl ?_
    refine ex_if (pc' := 44) dX0_countUnder_23 (by decide) (fun c => ?_) (fun c => ?_)
    · have h := h.1 c
      refine ex_step (pc' := 45) dX0_countUnder_44 rfl ?_
      rw [h]; exact ex_ret (v := some (.int x2)) ⟨dX0_countUnder_45, _, rfl, rfl⟩
    · have h := h.2 c
      refine ex_step (pc' := 29) (ls' := [some (.ref d0), none, some (.int (x2 + 1)), some (.int x3), some (.int x4)]) dX0_countUnder_26 rfl ?_
      refine ex_step (pc' := 30) dX0_countUnder_29 rfl ?_
      refine ex_getr dX0_countUnder_30 wf_RX0_30 (zDy_o hd0) rfl (zDy_r7 hd0) ?_
      refine ex_step (pc' := 34) dX0_countUnder_33 rfl ?_
      refine ex_callS (as := [.ref (d0 + 7), .int x3]) (st := []) dX0_countUnder_34 zmX11_at zl_RX0_67 zsX11_at rfl (Nat.le_of_ble_eq_true rfl) (Nat.le_of_ble_eq_true rfl) (S_at' (by decide) (zDy_a7 hd0)) ?_
      refine ex_step (pc' := 38) (ls' := [some (.ref d0), none, some (.int (x2 + 1)), some (.int (zat I (d0 + 7) 421 x3)), some (.int x4)]) dX0_countUnder_37 rfl ?_
      refine ex_step (pc' := 41) (ls' := [some (.ref d0), none, some (.int (x2 + 1)), some (.int (zat I (d0 + 7) 421 x3)), some (.int (x4 + 1))]) dX0_countUnder_38 rfl ?_
      refine ex_step (pc' := 14) dX0_countUnder_41 rfl ?_
      exact h
set_option maxHeartbeats 4000000 in
theorem BX0_countOn_0 {d : Nat} {Z : zZ} {I : zI} {J : zJ} {o : zO} {d0 : Nat} (x1 : Int32) (hd0 : zDy Z d0) (h : ((¬ (zat I (d0 + 9) 288 x1) = 0 → (∃ (v1 : Int32), zE (d + 1) kX0_countUnder 0 [some (.ref d0), some (.int (zat I (d0 + 9) 288 x1)), none, none, none] [] Z I J (some (.int v1), Z, I, J) ∧ o = (some (.int (v1 + 1)), Z, I, J))) ∧ ((zat I (d0 + 9) 288 x1) = 0 → o = (some (.int 0), Z, I, J)))) : zE (d + 2) kX0_countOn 0 [some (.ref d0), some (.int x1), none] [] Z I J o := by
  refine ex_step (pc' := 1) dX0_countOn_0 rfl ?_
  refine ex_getr dX0_countOn_1 wf_RX0_36 (zDy_o hd0) rfl (zDy_r9 hd0) ?_
  refine ex_step (pc' := 5) dX0_countOn_4 rfl ?_
  refine ex_callS (as := [.ref (d0 + 9), .int x1]) (st := []) dX0_countOn_5 zmX11_at zl_RX0_67 zsX11_at rfl (Nat.le_of_ble_eq_true rfl) (Nat.le_of_ble_eq_true rfl) (S_at' (by decide) (zDy_a9 hd0)) ?_
  refine ex_step (pc' := 9) (ls' := [some (.ref d0), some (.int x1), some (.int (zat I (d0 + 9) 288 x1))]) dX0_countOn_8 rfl ?_
  refine ex_step (pc' := 10) dX0_countOn_9 rfl ?_
  refine ex_if (pc' := 17) dX0_countOn_10 (by decide) (fun c => ?_) (fun c => ?_)
  · have h := h.1 c
    refine ex_step (pc' := 18) dX0_countOn_17 rfl ?_
    refine ex_step (pc' := 19) dX0_countOn_18 rfl ?_
    obtain ⟨v1, hc, h⟩ := h
    refine ex_callV (as := [.int (zat I (d0 + 9) 288 x1)]) (st := []) (ci := 0) dX0_countOn_19 zmX0_countUnder zl_RX0_134 ziX0_countUnder zvX0_countUnder (by decide) (zDy_o hd0) rfl (Nat.le_of_ble_eq_true rfl) (Nat.le_of_ble_eq_true rfl) hc ?_
    refine ex_step (pc' := 23) (st' := [.int 1, .int v1]) dX0_countOn_22 rfl ?_
    refine ex_step (pc' := 24) dX0_countOn_23 rfl ?_
    rw [h]; exact ex_ret (v := some (.int (v1 + 1))) ⟨dX0_countOn_24, _, rfl, rfl⟩
  · have h := h.2 (Classical.not_not.mp c)
    refine ex_step (pc' := 14) (st' := [.int 0]) dX0_countOn_13 rfl ?_
    refine ex_step (pc' := 24) dX0_countOn_14 rfl ?_
    rw [h]; exact ex_ret (v := some (.int 0)) ⟨dX0_countOn_24, _, rfl, rfl⟩
set_option maxHeartbeats 4000000 in
theorem BX0_fromTop_0 {d : Nat} {Z : zZ} {I : zI} {J : zJ} {o : zO} {d0 : Nat} (x1 : Int32) (x2 : Int32) (hd0 : zDy Z d0) (h : zE (d + 1) kX0_fromTop 12 [some (.ref d0), none, some (.int x2), some (.int (zat I (d0 + 9) 288 x1)), some (.int 0)] [] Z I J o) : zE (d + 1) kX0_fromTop 0 [some (.ref d0), some (.int x1), some (.int x2), none, none] [] Z I J o := by
  refine ex_step (pc' := 1) dX0_fromTop_0 rfl ?_
  refine ex_getr dX0_fromTop_1 wf_RX0_36 (zDy_o hd0) rfl (zDy_r9 hd0) ?_
  refine ex_step (pc' := 5) dX0_fromTop_4 rfl ?_
  refine ex_callS (as := [.ref (d0 + 9), .int x1]) (st := []) dX0_fromTop_5 zmX11_at zl_RX0_67 zsX11_at rfl (Nat.le_of_ble_eq_true rfl) (Nat.le_of_ble_eq_true rfl) (S_at' (by decide) (zDy_a9 hd0)) ?_
  refine ex_step (pc' := 9) (ls' := [some (.ref d0), some (.int x1), some (.int x2), some (.int (zat I (d0 + 9) 288 x1)), none]) dX0_fromTop_8 rfl ?_
  refine ex_step (pc' := 10) (st' := [.int 0]) dX0_fromTop_9 rfl ?_
  refine ex_step (pc' := 12) (ls' := [some (.ref d0), some (.int x1), some (.int x2), some (.int (zat I (d0 + 9) 288 x1)), some (.int 0)]) dX0_fromTop_10 rfl ?_
  exact ex_less (ls' := [some (.ref d0), none, some (.int x2), some (.int (zat I (d0 + 9) 288 x1)), some (.int 0)]) ⟨rfl, ⟨rfl, ⟨rfl, ⟨rfl, trivial⟩⟩⟩⟩ h
set_option maxHeartbeats 4000000 in
theorem BX0_fromTop_12 {d : Nat} {Z : zZ} {I : zI} {J : zJ} {o : zO} {d0 : Nat} (x2 : Int32) (x3 : Int32) (x4 : Int32) (hd0 : zDy Z d0) (h : ((x2 ≤ x4 → o = (some (.int x3), Z, I, J)) ∧ (¬ x2 ≤ x4 → ((420 ≤ x4 → o = (some (.int x3), Z, I, J)) ∧ (¬ 420 ≤ x4 → zE (d + 1) kX0_fromTop 12 [some (.ref d0), none, some (.int x2), some (.int (zat I (d0 + 7) 421 x3)), some (.int (x4 + 1))] [] Z I J o))))) : zE (d + 1) kX0_fromTop 12 [some (.ref d0), none, some (.int x2), some (.int x3), some (.int x4)] [] Z I J o := by
  refine ex_step (pc' := 14) dX0_fromTop_12 rfl ?_
  refine ex_step (pc' := 15) dX0_fromTop_14 rfl ?_
  refine ex_icmp (pc' := 41) dX0_fromTop_15 (by decide) (fun c => ?_) (fun c => ?_)
  · have h := h.1 c
    refine ex_step (pc' := 42) dX0_fromTop_41 rfl ?_
    rw [h]; exact ex_ret (v := some (.int x3)) ⟨dX0_fromTop_42, _, rfl, rfl⟩
  · have h := h.2 c
    refine ex_step (pc' := 20) dX0_fromTop_18 rfl ?_
    refine ex_step (pc' := 23) (st' := [.int 420, .int x4]) dX0_fromTop_20 rfl ?_
    refine ex_icmp (pc' := 41) dX0_fromTop_23 (by decide) (fun c => ?_) (fun c => ?_)
    · have h := h.1 c
      refine ex_step (pc' := 42) dX0_fromTop_41 rfl ?_
      rw [h]; exact ex_ret (v := some (.int x3)) ⟨dX0_fromTop_42, _, rfl, rfl⟩
    · have h := h.2 c
      refine ex_step (pc' := 27) dX0_fromTop_26 rfl ?_
      refine ex_getr dX0_fromTop_27 wf_RX0_30 (zDy_o hd0) rfl (zDy_r7 hd0) ?_
      refine ex_step (pc' := 31) dX0_fromTop_30 rfl ?_
      refine ex_callS (as := [.ref (d0 + 7), .int x3]) (st := []) dX0_fromTop_31 zmX11_at zl_RX0_67 zsX11_at rfl (Nat.le_of_ble_eq_true rfl) (Nat.le_of_ble_eq_true rfl) (S_at' (by decide) (zDy_a7 hd0)) ?_
      refine ex_step (pc' := 35) (ls' := [some (.ref d0), none, some (.int x2), some (.int (zat I (d0 + 7) 421 x3)), some (.int x4)]) dX0_fromTop_34 rfl ?_
      refine ex_step (pc' := 38) (ls' := [some (.ref d0), none, some (.int x2), some (.int (zat I (d0 + 7) 421 x3)), some (.int (x4 + 1))]) dX0_fromTop_35 rfl ?_
      refine ex_step (pc' := 12) dX0_fromTop_38 rfl ?_
      exact h
set_option maxHeartbeats 4000000 in
theorem BX0_countTops_0 {d : Nat} {Z : zZ} {I : zI} {J : zJ} {o : zO} {d0 : Nat} (x1 : Int32) (hd0 : zDy Z d0) (h : zE (d + 1) kX0_countTops 4 [some (.ref d0), some (.int x1), some (.int 0), some (.int 0), none] [] Z I J o) : zE (d + 1) kX0_countTops 0 [some (.ref d0), some (.int x1), none, none, none] [] Z I J o := by
  refine ex_step (pc' := 1) (st' := [.int 0]) dX0_countTops_0 rfl ?_
  refine ex_step (pc' := 2) (ls' := [some (.ref d0), some (.int x1), some (.int 0), none, none]) dX0_countTops_1 rfl ?_
  refine ex_step (pc' := 3) (st' := [.int 0]) dX0_countTops_2 rfl ?_
  refine ex_step (pc' := 4) (ls' := [some (.ref d0), some (.int x1), some (.int 0), some (.int 0), none]) dX0_countTops_3 rfl ?_
  exact h
set_option maxHeartbeats 4000000 in
theorem BX0_countTops_4 {d : Nat} {Z : zZ} {I : zI} {J : zJ} {o : zO} {d0 : Nat} (x1 : Int32) (x2 : Int32) (x3 : Int32) (hd0 : zDy Z d0) (h : ((288 ≤ x3 → o = (some (.int x2), Z, I, J)) ∧ (¬ 288 ≤ x3 → (((zat I (d0 + 9) 288 x3) = 0 → zE (d + 1) kX0_countTops 4 [some (.ref d0), some (.int x1), some (.int x2), some (.int (x3 + 1)), none] [] Z I J o) ∧ (¬ (zat I (d0 + 9) 288 x3) = 0 → ((¬ (zow (zat I (d0 + 9) 288 x3)) = x1 → zE (d + 1) kX0_countTops 4 [some (.ref d0), some (.int x1), some (.int x2), some (.int (x3 + 1)), none] [] Z I J o) ∧ ((zow (zat I (d0 + 9) 288 x3)) = x1 → zE (d + 1) kX0_countTops 4 [some (.ref d0), some (.int x1), some (.int (x2 + 1)), some (.int (x3 + 1)), none] [] Z I J o))))))) : zE (d + 1) kX0_countTops 4 [some (.ref d0), some (.int x1), some (.int x2), some (.int x3), none] [] Z I J o := by
  refine ex_step (pc' := 5) dX0_countTops_4 rfl ?_
  refine ex_step (pc' := 8) (st' := [.int 288, .int x3]) dX0_countTops_5 rfl ?_
  refine ex_icmp (pc' := 44) dX0_countTops_8 (by decide) (fun c => ?_) (fun c => ?_)
  · have h := h.1 c
    refine ex_step (pc' := 45) dX0_countTops_44 rfl ?_
    rw [h]; exact ex_ret (v := some (.int x2)) ⟨dX0_countTops_45, _, rfl, rfl⟩
  · have h := h.2 c
    refine ex_step (pc' := 12) dX0_countTops_11 rfl ?_
    refine ex_getr dX0_countTops_12 wf_RX0_36 (zDy_o hd0) rfl (zDy_r9 hd0) ?_
    refine ex_step (pc' := 16) dX0_countTops_15 rfl ?_
    refine ex_callS (as := [.ref (d0 + 9), .int x3]) (st := []) dX0_countTops_16 zmX11_at zl_RX0_67 zsX11_at rfl (Nat.le_of_ble_eq_true rfl) (Nat.le_of_ble_eq_true rfl) (S_at' (by decide) (zDy_a9 hd0)) ?_
    refine ex_step (pc' := 21) (ls' := [some (.ref d0), some (.int x1), some (.int x2), some (.int x3), some (.int (zat I (d0 + 9) 288 x3))]) dX0_countTops_19 rfl ?_
    refine ex_step (pc' := 23) dX0_countTops_21 rfl ?_
    refine ex_if (pc' := 38) dX0_countTops_23 (by decide) (fun c => ?_) (fun c => ?_)
    · have h := h.1 c
      refine ex_step (pc' := 41) (ls' := [some (.ref d0), some (.int x1), some (.int x2), some (.int (x3 + 1)), some (.int (zat I (d0 + 9) 288 x3))]) dX0_countTops_38 rfl ?_
      refine ex_step (pc' := 4) dX0_countTops_41 rfl ?_
      exact ex_less (ls' := [some (.ref d0), some (.int x1), some (.int x2), some (.int (x3 + 1)), none]) ⟨rfl, ⟨rfl, ⟨rfl, ⟨rfl, trivial⟩⟩⟩⟩ h
    · have h := h.2 c
      refine ex_step (pc' := 28) dX0_countTops_26 rfl ?_
      refine ex_callS (as := [.int (zat I (d0 + 9) 288 x3)]) (st := []) dX0_countTops_28 zmX11_ownerOf zl_RX0_137 zsX11_ownerOf rfl (Nat.le_of_ble_eq_true rfl) (Nat.le_of_ble_eq_true rfl) S_ownerOf ?_
      refine ex_step (pc' := 32) dX0_countTops_31 rfl ?_
      refine ex_icmp (pc' := 38) dX0_countTops_32 (by decide) (fun c => ?_) (fun c => ?_)
      · have h := h.1 c
        refine ex_step (pc' := 41) (ls' := [some (.ref d0), some (.int x1), some (.int x2), some (.int (x3 + 1)), some (.int (zat I (d0 + 9) 288 x3))]) dX0_countTops_38 rfl ?_
        refine ex_step (pc' := 4) dX0_countTops_41 rfl ?_
        exact ex_less (ls' := [some (.ref d0), some (.int x1), some (.int x2), some (.int (x3 + 1)), none]) ⟨rfl, ⟨rfl, ⟨rfl, ⟨rfl, trivial⟩⟩⟩⟩ h
      · have h := h.2 (Classical.not_not.mp c)
        refine ex_step (pc' := 38) (ls' := [some (.ref d0), some (.int x1), some (.int (x2 + 1)), some (.int x3), some (.int (zat I (d0 + 9) 288 x3))]) dX0_countTops_35 rfl ?_
        refine ex_step (pc' := 41) (ls' := [some (.ref d0), some (.int x1), some (.int (x2 + 1)), some (.int (x3 + 1)), some (.int (zat I (d0 + 9) 288 x3))]) dX0_countTops_38 rfl ?_
        refine ex_step (pc' := 4) dX0_countTops_41 rfl ?_
        exact ex_less (ls' := [some (.ref d0), some (.int x1), some (.int (x2 + 1)), some (.int (x3 + 1)), none]) ⟨rfl, ⟨rfl, ⟨rfl, ⟨rfl, trivial⟩⟩⟩⟩ h
set_option maxHeartbeats 4000000 in
theorem BX0_countOver_0 {d : Nat} {Z : zZ} {I : zI} {J : zJ} {o : zO} {d0 : Nat} (x1 : Int32) (x2 : Int32) (hd0 : zDy Z d0) (h : zE (d + 1) kX0_countOver 5 [some (.ref d0), some (.int x1), some (.int x2), some (.int 0), some (.int 0), none, none] [] Z I J o) : zE (d + 1) kX0_countOver 0 [some (.ref d0), some (.int x1), some (.int x2), none, none, none, none] [] Z I J o := by
  refine ex_step (pc' := 1) (st' := [.int 0]) dX0_countOver_0 rfl ?_
  refine ex_step (pc' := 2) (ls' := [some (.ref d0), some (.int x1), some (.int x2), some (.int 0), none, none, none]) dX0_countOver_1 rfl ?_
  refine ex_step (pc' := 3) (st' := [.int 0]) dX0_countOver_2 rfl ?_
  refine ex_step (pc' := 5) (ls' := [some (.ref d0), some (.int x1), some (.int x2), some (.int 0), some (.int 0), none, none]) dX0_countOver_3 rfl ?_
  exact h
set_option maxHeartbeats 4000000 in
theorem BX0_countOver_5 {d : Nat} {Z : zZ} {I : zI} {J : zJ} {o : zO} {d0 : Nat} (x1 : Int32) (x2 : Int32) (x3 : Int32) (x4 : Int32) (hd0 : zDy Z d0) (h : (((zat I (d0 + 3) 7 x1) ≤ x4 → o = (some (.int x3), Z, I, J)) ∧ (¬ (zat I (d0 + 3) 7 x1) ≤ x4 → (∀ y1 : Int32, y1 = (zat I (d0 + 7) 421 (zpc x1 x4)) → zE (d + 1) kX0_countOver 36 [some (.ref d0), some (.int x1), some (.int x2), some (.int x3), some (.int x4), some (.int y1), some (.int 0)] [] Z I J o)))) : zE (d + 1) kX0_countOver 5 [some (.ref d0), some (.int x1), some (.int x2), some (.int x3), some (.int x4), none, none] [] Z I J o := by
  refine ex_step (pc' := 7) dX0_countOver_5 rfl ?_
  refine ex_step (pc' := 8) dX0_countOver_7 rfl ?_
  refine ex_getr dX0_countOver_8 wf_RX0_18 (zDy_o hd0) rfl (zDy_r3 hd0) ?_
  refine ex_step (pc' := 12) dX0_countOver_11 rfl ?_
  refine ex_callS (as := [.ref (d0 + 3), .int x1]) (st := [.int x4]) dX0_countOver_12 zmX11_at zl_RX0_67 zsX11_at rfl (Nat.le_of_ble_eq_true rfl) (Nat.le_of_ble_eq_true rfl) (S_at' (by decide) (zDy_a3 hd0)) ?_
  refine ex_icmp (pc' := 89) dX0_countOver_15 (by decide) (fun c => ?_) (fun c => ?_)
  · have h := h.1 c
    refine ex_step (pc' := 90) dX0_countOver_89 rfl ?_
    rw [h]; exact ex_ret (v := some (.int x3)) ⟨dX0_countOver_90, _, rfl, rfl⟩
  · have h := h.2 c
    refine ex_step (pc' := 19) dX0_countOver_18 rfl ?_
    refine ex_getr dX0_countOver_19 wf_RX0_30 (zDy_o hd0) rfl (zDy_r7 hd0) ?_
    refine ex_step (pc' := 23) dX0_countOver_22 rfl ?_
    refine ex_step (pc' := 25) dX0_countOver_23 rfl ?_
    refine ex_callS (as := [.int x1, .int x4]) (st := [.ref (d0 + 7)]) dX0_countOver_25 zmX11_pieceOf zl_RX0_83 zsX11_pieceOf rfl (Nat.le_of_ble_eq_true rfl) (Nat.le_of_ble_eq_true rfl) S_pieceOf ?_
    refine ex_callS (as := [.ref (d0 + 7), .int (zpc x1 x4)]) (st := []) dX0_countOver_28 zmX11_at zl_RX0_67 zsX11_at rfl (Nat.le_of_ble_eq_true rfl) (Nat.le_of_ble_eq_true rfl) (S_at' (by decide) (zDy_a7 hd0)) ?_
    refine ex_topi (fun y1 ey1 => ?_)
    have h := h y1 ey1
    refine ex_step (pc' := 33) (ls' := [some (.ref d0), some (.int x1), some (.int x2), some (.int x3), some (.int x4), some (.int y1), none]) dX0_countOver_31 rfl ?_
    refine ex_step (pc' := 34) (st' := [.int 0]) dX0_countOver_33 rfl ?_
    refine ex_step (pc' := 36) (ls' := [some (.ref d0), some (.int x1), some (.int x2), some (.int x3), some (.int x4), some (.int y1), some (.int 0)]) dX0_countOver_34 rfl ?_
    exact h
set_option maxHeartbeats 4000000 in
theorem BX0_countOver_36 {d : Nat} {Z : zZ} {I : zI} {J : zJ} {o : zO} {d0 : Nat} (x1 : Int32) (x2 : Int32) (x3 : Int32) (x4 : Int32) (x5 : Int32) (x6 : Int32) (hd0 : zDy Z d0) (h : ((420 ≤ x6 → zE (d + 1) kX0_countOver 5 [some (.ref d0), some (.int x1), some (.int x2), some (.int x3), some (.int (x4 + 1)), none, none] [] Z I J o) ∧ (¬ 420 ≤ x6 → ((x5 = 0 → zE (d + 1) kX0_countOver 5 [some (.ref d0), some (.int x1), some (.int x2), some (.int x3), some (.int (x4 + 1)), none, none] [] Z I J o) ∧ (¬ x5 = 0 → ((¬ (zow x5) = x2 → zE (d + 1) kX0_countOver 36 [some (.ref d0), some (.int x1), some (.int x2), some (.int (x3 + 0)), some (.int x4), some (.int (zat I (d0 + 7) 421 x5)), some (.int (x6 + 1))] [] Z I J o) ∧ ((zow x5) = x2 → zE (d + 1) kX0_countOver 36 [some (.ref d0), some (.int x1), some (.int x2), some (.int (x3 + 1)), some (.int x4), some (.int (zat I (d0 + 7) 421 x5)), some (.int (x6 + 1))] [] Z I J o))))))) : zE (d + 1) kX0_countOver 36 [some (.ref d0), some (.int x1), some (.int x2), some (.int x3), some (.int x4), some (.int x5), some (.int x6)] [] Z I J o := by
  refine ex_step (pc' := 38) dX0_countOver_36 rfl ?_
  refine ex_step (pc' := 41) (st' := [.int 420, .int x6]) dX0_countOver_38 rfl ?_
  refine ex_icmp (pc' := 83) dX0_countOver_41 (by decide) (fun c => ?_) (fun c => ?_)
  · have h := h.1 c
    refine ex_step (pc' := 86) (ls' := [some (.ref d0), some (.int x1), some (.int x2), some (.int x3), some (.int (x4 + 1)), some (.int x5), some (.int x6)]) dX0_countOver_83 rfl ?_
    refine ex_step (pc' := 5) dX0_countOver_86 rfl ?_
    exact ex_less (ls' := [some (.ref d0), some (.int x1), some (.int x2), some (.int x3), some (.int (x4 + 1)), none, none]) ⟨rfl, ⟨rfl, ⟨rfl, ⟨rfl, ⟨rfl, trivial⟩⟩⟩⟩⟩ h
  · have h := h.2 c
    refine ex_step (pc' := 46) dX0_countOver_44 rfl ?_
    refine ex_if (pc' := 83) dX0_countOver_46 (by decide) (fun c => ?_) (fun c => ?_)
    · have h := h.1 c
      refine ex_step (pc' := 86) (ls' := [some (.ref d0), some (.int x1), some (.int x2), some (.int x3), some (.int (x4 + 1)), some (.int x5), some (.int x6)]) dX0_countOver_83 rfl ?_
      refine ex_step (pc' := 5) dX0_countOver_86 rfl ?_
      exact ex_less (ls' := [some (.ref d0), some (.int x1), some (.int x2), some (.int x3), some (.int (x4 + 1)), none, none]) ⟨rfl, ⟨rfl, ⟨rfl, ⟨rfl, ⟨rfl, trivial⟩⟩⟩⟩⟩ h
    · have h := h.2 c
      refine ex_step (pc' := 50) dX0_countOver_49 rfl ?_
      refine ex_step (pc' := 52) dX0_countOver_50 rfl ?_
      refine ex_callS (as := [.int x5]) (st := [.int x3]) dX0_countOver_52 zmX11_ownerOf zl_RX0_137 zsX11_ownerOf rfl (Nat.le_of_ble_eq_true rfl) (Nat.le_of_ble_eq_true rfl) S_ownerOf ?_
      refine ex_step (pc' := 56) dX0_countOver_55 rfl ?_
      refine ex_icmp (pc' := 63) dX0_countOver_56 (by decide) (fun c => ?_) (fun c => ?_)
      · have h := h.1 c
        refine ex_step (pc' := 64) (st' := [.int 0, .int x3]) dX0_countOver_63 rfl ?_
        refine ex_step (pc' := 65) dX0_countOver_64 rfl ?_
        refine ex_step (pc' := 66) (ls' := [some (.ref d0), some (.int x1), some (.int x2), some (.int (x3 + 0)), some (.int x4), some (.int x5), some (.int x6)]) dX0_countOver_65 rfl ?_
        refine ex_step (pc' := 67) dX0_countOver_66 rfl ?_
        refine ex_getr dX0_countOver_67 wf_RX0_30 (zDy_o hd0) rfl (zDy_r7 hd0) ?_
        refine ex_step (pc' := 72) dX0_countOver_70 rfl ?_
        refine ex_callS (as := [.ref (d0 + 7), .int x5]) (st := []) dX0_countOver_72 zmX11_at zl_RX0_67 zsX11_at rfl (Nat.le_of_ble_eq_true rfl) (Nat.le_of_ble_eq_true rfl) (S_at' (by decide) (zDy_a7 hd0)) ?_
        refine ex_step (pc' := 77) (ls' := [some (.ref d0), some (.int x1), some (.int x2), some (.int (x3 + 0)), some (.int x4), some (.int (zat I (d0 + 7) 421 x5)), some (.int x6)]) dX0_countOver_75 rfl ?_
        refine ex_step (pc' := 80) (ls' := [some (.ref d0), some (.int x1), some (.int x2), some (.int (x3 + 0)), some (.int x4), some (.int (zat I (d0 + 7) 421 x5)), some (.int (x6 + 1))]) dX0_countOver_77 rfl ?_
        refine ex_step (pc' := 36) dX0_countOver_80 rfl ?_
        exact h
      · have h := h.2 (Classical.not_not.mp c)
        refine ex_step (pc' := 60) (st' := [.int 1, .int x3]) dX0_countOver_59 rfl ?_
        refine ex_step (pc' := 64) dX0_countOver_60 rfl ?_
        refine ex_step (pc' := 65) dX0_countOver_64 rfl ?_
        refine ex_step (pc' := 66) (ls' := [some (.ref d0), some (.int x1), some (.int x2), some (.int (x3 + 1)), some (.int x4), some (.int x5), some (.int x6)]) dX0_countOver_65 rfl ?_
        refine ex_step (pc' := 67) dX0_countOver_66 rfl ?_
        refine ex_getr dX0_countOver_67 wf_RX0_30 (zDy_o hd0) rfl (zDy_r7 hd0) ?_
        refine ex_step (pc' := 72) dX0_countOver_70 rfl ?_
        refine ex_callS (as := [.ref (d0 + 7), .int x5]) (st := []) dX0_countOver_72 zmX11_at zl_RX0_67 zsX11_at rfl (Nat.le_of_ble_eq_true rfl) (Nat.le_of_ble_eq_true rfl) (S_at' (by decide) (zDy_a7 hd0)) ?_
        refine ex_step (pc' := 77) (ls' := [some (.ref d0), some (.int x1), some (.int x2), some (.int (x3 + 1)), some (.int x4), some (.int (zat I (d0 + 7) 421 x5)), some (.int x6)]) dX0_countOver_75 rfl ?_
        refine ex_step (pc' := 80) (ls' := [some (.ref d0), some (.int x1), some (.int x2), some (.int (x3 + 1)), some (.int x4), some (.int (zat I (d0 + 7) 421 x5)), some (.int (x6 + 1))]) dX0_countOver_77 rfl ?_
        refine ex_step (pc' := 36) dX0_countOver_80 rfl ?_
        exact h
set_option maxHeartbeats 4000000 in
theorem BX0_countOverOthers_0 {d : Nat} {Z : zZ} {I : zI} {J : zJ} {o : zO} {d0 : Nat} (x1 : Int32) (hd0 : zDy Z d0) (h : zE (d + 2) kX0_countOverOthers 4 [some (.ref d0), some (.int x1), some (.int 0), some (.int 0)] [] Z I J o) : zE (d + 2) kX0_countOverOthers 0 [some (.ref d0), some (.int x1), none, none] [] Z I J o := by
  refine ex_step (pc' := 1) (st' := [.int 0]) dX0_countOverOthers_0 rfl ?_
  refine ex_step (pc' := 2) (ls' := [some (.ref d0), some (.int x1), some (.int 0), none]) dX0_countOverOthers_1 rfl ?_
  refine ex_step (pc' := 3) (st' := [.int 0]) dX0_countOverOthers_2 rfl ?_
  refine ex_step (pc' := 4) (ls' := [some (.ref d0), some (.int x1), some (.int 0), some (.int 0)]) dX0_countOverOthers_3 rfl ?_
  exact h
set_option maxHeartbeats 4000000 in
theorem BX0_countOverOthers_4 {d : Nat} {Z : zZ} {I : zI} {J : zJ} {o : zO} {d0 : Nat} (x1 : Int32) (x2 : Int32) (x3 : Int32) (hd0 : zDy Z d0) (h : ((7 ≤ x3 → o = (some (.int x2), Z, I, J)) ∧ (¬ 7 ≤ x3 → ((¬ x3 = x1 → (∃ (v1 : Int32), zE (d + 1) kX0_countOver 0 [some (.ref d0), some (.int x1), some (.int x3), none, none, none, none] [] Z I J (some (.int v1), Z, I, J) ∧ zE (d + 2) kX0_countOverOthers 4 [some (.ref d0), some (.int x1), some (.int (x2 + v1)), some (.int (x3 + 1))] [] Z I J o)) ∧ (x3 = x1 → zE (d + 2) kX0_countOverOthers 4 [some (.ref d0), some (.int x1), some (.int (x2 + 0)), some (.int (x3 + 1))] [] Z I J o))))) : zE (d + 2) kX0_countOverOthers 4 [some (.ref d0), some (.int x1), some (.int x2), some (.int x3)] [] Z I J o := by
  refine ex_step (pc' := 5) dX0_countOverOthers_4 rfl ?_
  refine ex_step (pc' := 7) (st' := [.int 7, .int x3]) dX0_countOverOthers_5 rfl ?_
  refine ex_icmp (pc' := 34) dX0_countOverOthers_7 (by decide) (fun c => ?_) (fun c => ?_)
  · have h := h.1 c
    refine ex_step (pc' := 35) dX0_countOverOthers_34 rfl ?_
    rw [h]; exact ex_ret (v := some (.int x2)) ⟨dX0_countOverOthers_35, _, rfl, rfl⟩
  · have h := h.2 c
    refine ex_step (pc' := 11) dX0_countOverOthers_10 rfl ?_
    refine ex_step (pc' := 12) dX0_countOverOthers_11 rfl ?_
    refine ex_step (pc' := 13) dX0_countOverOthers_12 rfl ?_
    refine ex_icmp (pc' := 20) dX0_countOverOthers_13 (by decide) (fun c => ?_) (fun c => ?_)
    · have h := h.1 c
      refine ex_step (pc' := 21) dX0_countOverOthers_20 rfl ?_
      refine ex_step (pc' := 22) dX0_countOverOthers_21 rfl ?_
      refine ex_step (pc' := 23) dX0_countOverOthers_22 rfl ?_
      obtain ⟨v1, hc, h⟩ := h
      refine ex_callV (as := [.int x1, .int x3]) (st := [.int x2]) (ci := 0) dX0_countOverOthers_23 zmX0_countOver zl_RX0_140 ziX0_countOver zvX0_countOver (by decide) (zDy_o hd0) rfl (Nat.le_of_ble_eq_true rfl) (Nat.le_of_ble_eq_true rfl) hc ?_
      refine ex_step (pc' := 27) dX0_countOverOthers_26 rfl ?_
      refine ex_step (pc' := 28) (ls' := [some (.ref d0), some (.int x1), some (.int (x2 + v1)), some (.int x3)]) dX0_countOverOthers_27 rfl ?_
      refine ex_step (pc' := 31) (ls' := [some (.ref d0), some (.int x1), some (.int (x2 + v1)), some (.int (x3 + 1))]) dX0_countOverOthers_28 rfl ?_
      refine ex_step (pc' := 4) dX0_countOverOthers_31 rfl ?_
      exact h
    · have h := h.2 (Classical.not_not.mp c)
      refine ex_step (pc' := 17) (st' := [.int 0, .int x2]) dX0_countOverOthers_16 rfl ?_
      refine ex_step (pc' := 26) dX0_countOverOthers_17 rfl ?_
      refine ex_step (pc' := 27) dX0_countOverOthers_26 rfl ?_
      refine ex_step (pc' := 28) (ls' := [some (.ref d0), some (.int x1), some (.int (x2 + 0)), some (.int x3)]) dX0_countOverOthers_27 rfl ?_
      refine ex_step (pc' := 31) (ls' := [some (.ref d0), some (.int x1), some (.int (x2 + 0)), some (.int (x3 + 1))]) dX0_countOverOthers_28 rfl ?_
      refine ex_step (pc' := 4) dX0_countOverOthers_31 rfl ?_
      exact h
set_option maxHeartbeats 4000000 in
theorem BX0_countLying_0 {d : Nat} {Z : zZ} {I : zI} {J : zJ} {o : zO} {d0 : Nat} {t1 : Nat} (x2 : Int32) (hd0 : zDy Z d0) (ht1 : zTx Z t1) (h : zE (d + 1) kX0_countLying 5 [some (.ref d0), some (.ref t1), some (.int x2), some (.int 0), some (.int 0)] [] Z I J o) : zE (d + 1) kX0_countLying 0 [some (.ref d0), some (.ref t1), some (.int x2), none, none] [] Z I J o := by
  refine ex_step (pc' := 1) (st' := [.int 0]) dX0_countLying_0 rfl ?_
  refine ex_step (pc' := 2) (ls' := [some (.ref d0), some (.ref t1), some (.int x2), some (.int 0), none]) dX0_countLying_1 rfl ?_
  refine ex_step (pc' := 3) (st' := [.int 0]) dX0_countLying_2 rfl ?_
  refine ex_step (pc' := 5) (ls' := [some (.ref d0), some (.ref t1), some (.int x2), some (.int 0), some (.int 0)]) dX0_countLying_3 rfl ?_
  exact h
set_option maxHeartbeats 4000000 in
theorem BX0_countLying_5 {d : Nat} {Z : zZ} {I : zI} {J : zJ} {o : zO} {d0 : Nat} {t1 : Nat} (x2 : Int32) (x3 : Int32) (x4 : Int32) (hd0 : zDy Z d0) (ht1 : zTx Z t1) (h : (((I t1 2) ≤ x4 → o = (some (.int x3), Z, I, J)) ∧ (¬ (I t1 2) ≤ x4 → ((((x2 >>> (x4 &&& 31)) &&& 1) = 0 → zE (d + 1) kX0_countLying 5 [some (.ref d0), some (.ref t1), some (.int x2), some (.int (x3 + 0)), some (.int (x4 + 1))] [] Z I J o) ∧ (¬ ((x2 >>> (x4 &&& 31)) &&& 1) = 0 → (∀ y1 : Int32, y1 = (x3 + (zat I (d0 + 3) 7 x4)) → zE (d + 1) kX0_countLying 5 [some (.ref d0), some (.ref t1), some (.int x2), some (.int y1), some (.int (x4 + 1))] [] Z I J o)))))) : zE (d + 1) kX0_countLying 5 [some (.ref d0), some (.ref t1), some (.int x2), some (.int x3), some (.int x4)] [] Z I J o := by
  refine ex_step (pc' := 7) dX0_countLying_5 rfl ?_
  refine ex_step (pc' := 8) dX0_countLying_7 rfl ?_
  refine ex_geti dX0_countLying_8 wf_RX0_128 (zTx_o ht1) rfl ?_
  refine ex_icmp (pc' := 45) dX0_countLying_11 (by decide) (fun c => ?_) (fun c => ?_)
  · have h := h.1 c
    refine ex_step (pc' := 46) dX0_countLying_45 rfl ?_
    rw [h]; exact ex_ret (v := some (.int x3)) ⟨dX0_countLying_46, _, rfl, rfl⟩
  · have h := h.2 c
    refine ex_step (pc' := 15) dX0_countLying_14 rfl ?_
    refine ex_step (pc' := 16) dX0_countLying_15 rfl ?_
    refine ex_step (pc' := 18) dX0_countLying_16 rfl ?_
    refine ex_step (pc' := 19) dX0_countLying_18 rfl ?_
    refine ex_step (pc' := 20) (st' := [.int 1, .int (x2 >>> (x4 &&& 31)), .int x3]) dX0_countLying_19 rfl ?_
    refine ex_step (pc' := 21) dX0_countLying_20 rfl ?_
    refine ex_if (pc' := 36) dX0_countLying_21 (by decide) (fun c => ?_) (fun c => ?_)
    · have h := h.1 c
      refine ex_step (pc' := 37) (st' := [.int 0, .int x3]) dX0_countLying_36 rfl ?_
      refine ex_step (pc' := 38) dX0_countLying_37 rfl ?_
      refine ex_step (pc' := 39) (ls' := [some (.ref d0), some (.ref t1), some (.int x2), some (.int (x3 + 0)), some (.int x4)]) dX0_countLying_38 rfl ?_
      refine ex_step (pc' := 42) (ls' := [some (.ref d0), some (.ref t1), some (.int x2), some (.int (x3 + 0)), some (.int (x4 + 1))]) dX0_countLying_39 rfl ?_
      refine ex_step (pc' := 5) dX0_countLying_42 rfl ?_
      exact h
    · have h := h.2 c
      refine ex_step (pc' := 25) dX0_countLying_24 rfl ?_
      refine ex_getr dX0_countLying_25 wf_RX0_18 (zDy_o hd0) rfl (zDy_r3 hd0) ?_
      refine ex_step (pc' := 30) dX0_countLying_28 rfl ?_
      refine ex_callS (as := [.ref (d0 + 3), .int x4]) (st := [.int x3]) dX0_countLying_30 zmX11_at zl_RX0_67 zsX11_at rfl (Nat.le_of_ble_eq_true rfl) (Nat.le_of_ble_eq_true rfl) (S_at' (by decide) (zDy_a3 hd0)) ?_
      refine ex_step (pc' := 37) dX0_countLying_33 rfl ?_
      refine ex_step (pc' := 38) dX0_countLying_37 rfl ?_
      refine ex_topi (fun y1 ey1 => ?_)
      have h := h y1 ey1
      refine ex_step (pc' := 39) (ls' := [some (.ref d0), some (.ref t1), some (.int x2), some (.int y1), some (.int x4)]) dX0_countLying_38 rfl ?_
      refine ex_step (pc' := 42) (ls' := [some (.ref d0), some (.ref t1), some (.int x2), some (.int y1), some (.int (x4 + 1))]) dX0_countLying_39 rfl ?_
      refine ex_step (pc' := 5) dX0_countLying_42 rfl ?_
      exact h
set_option maxHeartbeats 4000000 in
theorem BX0_whoseThreadLies_0 {d : Nat} {Z : zZ} {I : zI} {J : zJ} {o : zO} {d0 : Nat} {t1 : Nat} (x2 : Int32) (hd0 : zDy Z d0) (ht1 : zTx Z t1) (h : zE (d + 1) kX0_whoseThreadLies 5 [some (.ref d0), some (.ref t1), some (.int x2), some (.int 0), some (.int 0)] [] Z I J o) : zE (d + 1) kX0_whoseThreadLies 0 [some (.ref d0), some (.ref t1), some (.int x2), none, none] [] Z I J o := by
  refine ex_step (pc' := 1) (st' := [.int 0]) dX0_whoseThreadLies_0 rfl ?_
  refine ex_step (pc' := 2) (ls' := [some (.ref d0), some (.ref t1), some (.int x2), some (.int 0), none]) dX0_whoseThreadLies_1 rfl ?_
  refine ex_step (pc' := 3) (st' := [.int 0]) dX0_whoseThreadLies_2 rfl ?_
  refine ex_step (pc' := 5) (ls' := [some (.ref d0), some (.ref t1), some (.int x2), some (.int 0), some (.int 0)]) dX0_whoseThreadLies_3 rfl ?_
  exact h
set_option maxHeartbeats 4000000 in
theorem BX0_whoseThreadLies_5 {d : Nat} {Z : zZ} {I : zI} {J : zJ} {o : zO} {d0 : Nat} {t1 : Nat} (x2 : Int32) (x3 : Int32) (x4 : Int32) (hd0 : zDy Z d0) (ht1 : zTx Z t1) (h : (((I t1 2) ≤ x4 → o = (some (.int x3), Z, I, J)) ∧ (¬ (I t1 2) ≤ x4 → (((zat I (d0 + 3) 7 x4) ≤ 0 → ((¬ (0 : Int32) = x2 → zE (d + 1) kX0_whoseThreadLies 5 [some (.ref d0), some (.ref t1), some (.int x2), some (.int x3), some (.int (x4 + 1))] [] Z I J o) ∧ ((0 : Int32) = x2 → (∀ y1 : Int32, y1 = (x3 ||| ((1 : Int32) <<< (x4 &&& 31))) → zE (d + 1) kX0_whoseThreadLies 5 [some (.ref d0), some (.ref t1), some (.int x2), some (.int y1), some (.int (x4 + 1))] [] Z I J o)))) ∧ (¬ (zat I (d0 + 3) 7 x4) ≤ 0 → ((¬ (1 : Int32) = x2 → zE (d + 1) kX0_whoseThreadLies 5 [some (.ref d0), some (.ref t1), some (.int x2), some (.int x3), some (.int (x4 + 1))] [] Z I J o) ∧ ((1 : Int32) = x2 → (∀ y2 : Int32, y2 = (x3 ||| ((1 : Int32) <<< (x4 &&& 31))) → zE (d + 1) kX0_whoseThreadLies 5 [some (.ref d0), some (.ref t1), some (.int x2), some (.int y2), some (.int (x4 + 1))] [] Z I J o)))))))) : zE (d + 1) kX0_whoseThreadLies 5 [some (.ref d0), some (.ref t1), some (.int x2), some (.int x3), some (.int x4)] [] Z I J o := by
  refine ex_step (pc' := 7) dX0_whoseThreadLies_5 rfl ?_
  refine ex_step (pc' := 8) dX0_whoseThreadLies_7 rfl ?_
  refine ex_geti dX0_whoseThreadLies_8 wf_RX0_128 (zTx_o ht1) rfl ?_
  refine ex_icmp (pc' := 48) dX0_whoseThreadLies_11 (by decide) (fun c => ?_) (fun c => ?_)
  · have h := h.1 c
    refine ex_step (pc' := 49) dX0_whoseThreadLies_48 rfl ?_
    rw [h]; exact ex_ret (v := some (.int x3)) ⟨dX0_whoseThreadLies_49, _, rfl, rfl⟩
  · have h := h.2 c
    refine ex_step (pc' := 15) dX0_whoseThreadLies_14 rfl ?_
    refine ex_getr dX0_whoseThreadLies_15 wf_RX0_18 (zDy_o hd0) rfl (zDy_r3 hd0) ?_
    refine ex_step (pc' := 20) dX0_whoseThreadLies_18 rfl ?_
    refine ex_callS (as := [.ref (d0 + 3), .int x4]) (st := []) dX0_whoseThreadLies_20 zmX11_at zl_RX0_67 zsX11_at rfl (Nat.le_of_ble_eq_true rfl) (Nat.le_of_ble_eq_true rfl) (S_at' (by decide) (zDy_a3 hd0)) ?_
    refine ex_if (pc' := 30) dX0_whoseThreadLies_23 (by decide) (fun c => ?_) (fun c => ?_)
    · have h := h.1 c
      refine ex_step (pc' := 31) (st' := [.int 0]) dX0_whoseThreadLies_30 rfl ?_
      refine ex_step (pc' := 32) dX0_whoseThreadLies_31 rfl ?_
      refine ex_icmp (pc' := 42) dX0_whoseThreadLies_32 (by decide) (fun c => ?_) (fun c => ?_)
      · have h := h.1 c
        refine ex_step (pc' := 45) (ls' := [some (.ref d0), some (.ref t1), some (.int x2), some (.int x3), some (.int (x4 + 1))]) dX0_whoseThreadLies_42 rfl ?_
        refine ex_step (pc' := 5) dX0_whoseThreadLies_45 rfl ?_
        exact h
      · have h := h.2 (Classical.not_not.mp c)
        refine ex_step (pc' := 36) dX0_whoseThreadLies_35 rfl ?_
        refine ex_step (pc' := 37) (st' := [.int 1, .int x3]) dX0_whoseThreadLies_36 rfl ?_
        refine ex_step (pc' := 39) dX0_whoseThreadLies_37 rfl ?_
        refine ex_step (pc' := 40) dX0_whoseThreadLies_39 rfl ?_
        refine ex_step (pc' := 41) dX0_whoseThreadLies_40 rfl ?_
        refine ex_topi (fun y1 ey1 => ?_)
        have h := h y1 ey1
        refine ex_step (pc' := 42) (ls' := [some (.ref d0), some (.ref t1), some (.int x2), some (.int y1), some (.int x4)]) dX0_whoseThreadLies_41 rfl ?_
        refine ex_step (pc' := 45) (ls' := [some (.ref d0), some (.ref t1), some (.int x2), some (.int y1), some (.int (x4 + 1))]) dX0_whoseThreadLies_42 rfl ?_
        refine ex_step (pc' := 5) dX0_whoseThreadLies_45 rfl ?_
        exact h
    · have h := h.2 c
      refine ex_step (pc' := 27) (st' := [.int 1]) dX0_whoseThreadLies_26 rfl ?_
      refine ex_step (pc' := 31) dX0_whoseThreadLies_27 rfl ?_
      refine ex_step (pc' := 32) dX0_whoseThreadLies_31 rfl ?_
      refine ex_icmp (pc' := 42) dX0_whoseThreadLies_32 (by decide) (fun c => ?_) (fun c => ?_)
      · have h := h.1 c
        refine ex_step (pc' := 45) (ls' := [some (.ref d0), some (.ref t1), some (.int x2), some (.int x3), some (.int (x4 + 1))]) dX0_whoseThreadLies_42 rfl ?_
        refine ex_step (pc' := 5) dX0_whoseThreadLies_45 rfl ?_
        exact h
      · have h := h.2 (Classical.not_not.mp c)
        refine ex_step (pc' := 36) dX0_whoseThreadLies_35 rfl ?_
        refine ex_step (pc' := 37) (st' := [.int 1, .int x3]) dX0_whoseThreadLies_36 rfl ?_
        refine ex_step (pc' := 39) dX0_whoseThreadLies_37 rfl ?_
        refine ex_step (pc' := 40) dX0_whoseThreadLies_39 rfl ?_
        refine ex_step (pc' := 41) dX0_whoseThreadLies_40 rfl ?_
        refine ex_topi (fun y2 ey2 => ?_)
        have h := h y2 ey2
        refine ex_step (pc' := 42) (ls' := [some (.ref d0), some (.ref t1), some (.int x2), some (.int y2), some (.int x4)]) dX0_whoseThreadLies_41 rfl ?_
        refine ex_step (pc' := 45) (ls' := [some (.ref d0), some (.ref t1), some (.int x2), some (.int y2), some (.int (x4 + 1))]) dX0_whoseThreadLies_42 rfl ?_
        refine ex_step (pc' := 5) dX0_whoseThreadLies_45 rfl ?_
        exact h
set_option maxHeartbeats 4000000 in
theorem BX0_lostBits_0 {d : Nat} {Z : zZ} {I : zI} {J : zJ} {o : zO} {d0 : Nat} {t1 : Nat} (hd0 : zDy Z d0) (ht1 : zTx Z t1) (h : zE (d + 1) kX0_lostBits 4 [some (.ref d0), some (.ref t1), some (.int 0), some (.int 0)] [] Z I J o) : zE (d + 1) kX0_lostBits 0 [some (.ref d0), some (.ref t1), none, none] [] Z I J o := by
  refine ex_step (pc' := 1) (st' := [.int 0]) dX0_lostBits_0 rfl ?_
  refine ex_step (pc' := 2) (ls' := [some (.ref d0), some (.ref t1), some (.int 0), none]) dX0_lostBits_1 rfl ?_
  refine ex_step (pc' := 3) (st' := [.int 0]) dX0_lostBits_2 rfl ?_
  refine ex_step (pc' := 4) (ls' := [some (.ref d0), some (.ref t1), some (.int 0), some (.int 0)]) dX0_lostBits_3 rfl ?_
  exact h
set_option maxHeartbeats 4000000 in
theorem BX0_lostBits_4 {d : Nat} {Z : zZ} {I : zI} {J : zJ} {o : zO} {d0 : Nat} {t1 : Nat} (x2 : Int32) (x3 : Int32) (hd0 : zDy Z d0) (ht1 : zTx Z t1) (h : (((I t1 2) ≤ x3 → o = (some (.int x2), Z, I, J)) ∧ (¬ (I t1 2) ≤ x3 → (∀ y1 : Int32, y1 = (x2 ||| ((zat I (d0 + 4) 7 x3) <<< (x3 &&& 31))) → zE (d + 1) kX0_lostBits 4 [some (.ref d0), some (.ref t1), some (.int y1), some (.int (x3 + 1))] [] Z I J o)))) : zE (d + 1) kX0_lostBits 4 [some (.ref d0), some (.ref t1), some (.int x2), some (.int x3)] [] Z I J o := by
  refine ex_step (pc' := 5) dX0_lostBits_4 rfl ?_
  refine ex_step (pc' := 6) dX0_lostBits_5 rfl ?_
  refine ex_geti dX0_lostBits_6 wf_RX0_128 (zTx_o ht1) rfl ?_
  refine ex_icmp (pc' := 31) dX0_lostBits_9 (by decide) (fun c => ?_) (fun c => ?_)
  · have h := h.1 c
    refine ex_step (pc' := 32) dX0_lostBits_31 rfl ?_
    rw [h]; exact ex_ret (v := some (.int x2)) ⟨dX0_lostBits_32, _, rfl, rfl⟩
  · have h := h.2 c
    refine ex_step (pc' := 13) dX0_lostBits_12 rfl ?_
    refine ex_step (pc' := 14) dX0_lostBits_13 rfl ?_
    refine ex_getr dX0_lostBits_14 wf_RX0_21 (zDy_o hd0) rfl (zDy_r4 hd0) ?_
    refine ex_step (pc' := 18) dX0_lostBits_17 rfl ?_
    refine ex_callS (as := [.ref (d0 + 4), .int x3]) (st := [.int x2]) dX0_lostBits_18 zmX11_at zl_RX0_67 zsX11_at rfl (Nat.le_of_ble_eq_true rfl) (Nat.le_of_ble_eq_true rfl) (S_at' (by decide) (zDy_a4 hd0)) ?_
    refine ex_step (pc' := 22) dX0_lostBits_21 rfl ?_
    refine ex_step (pc' := 23) dX0_lostBits_22 rfl ?_
    refine ex_step (pc' := 24) dX0_lostBits_23 rfl ?_
    refine ex_topi (fun y1 ey1 => ?_)
    have h := h y1 ey1
    refine ex_step (pc' := 25) (ls' := [some (.ref d0), some (.ref t1), some (.int y1), some (.int x3)]) dX0_lostBits_24 rfl ?_
    refine ex_step (pc' := 28) (ls' := [some (.ref d0), some (.ref t1), some (.int y1), some (.int (x3 + 1))]) dX0_lostBits_25 rfl ?_
    refine ex_step (pc' := 4) dX0_lostBits_28 rfl ?_
    exact h
set_option maxHeartbeats 4000000 in
theorem BX0_span_0 {d : Nat} {Z : zZ} {I : zI} {J : zJ} {o : zO} {d0 : Nat} (x1 : Int32) (x2 : Int32) (hd0 : zDy Z d0) (h : (∃ (v1 : Int32), zE (d + 1) kX11_apart 0 [some (.int (zat I (d0 + 1) 7 x1)), some (.int (zat I (d0 + 2) 7 x1)), some (.int (zat I (d0 + 1) 7 x2)), some (.int (zat I (d0 + 2) 7 x2))] [] Z I J (some (.int v1), Z, I, J) ∧ o = (some (.int v1), Z, I, J))) : zE (d + 2) kX0_span 0 [some (.ref d0), some (.int x1), some (.int x2)] [] Z I J o := by
  refine ex_step (pc' := 1) dX0_span_0 rfl ?_
  refine ex_getr dX0_span_1 wf_RX0_9 (zDy_o hd0) rfl (zDy_r1 hd0) ?_
  refine ex_step (pc' := 5) dX0_span_4 rfl ?_
  refine ex_callS (as := [.ref (d0 + 1), .int x1]) (st := []) dX0_span_5 zmX11_at zl_RX0_67 zsX11_at rfl (Nat.le_of_ble_eq_true rfl) (Nat.le_of_ble_eq_true rfl) (S_at' (by decide) (zDy_a1 hd0)) ?_
  refine ex_step (pc' := 9) dX0_span_8 rfl ?_
  refine ex_getr dX0_span_9 wf_RX0_15 (zDy_o hd0) rfl (zDy_r2 hd0) ?_
  refine ex_step (pc' := 13) dX0_span_12 rfl ?_
  refine ex_callS (as := [.ref (d0 + 2), .int x1]) (st := [.int (zat I (d0 + 1) 7 x1)]) dX0_span_13 zmX11_at zl_RX0_67 zsX11_at rfl (Nat.le_of_ble_eq_true rfl) (Nat.le_of_ble_eq_true rfl) (S_at' (by decide) (zDy_a2 hd0)) ?_
  refine ex_step (pc' := 17) dX0_span_16 rfl ?_
  refine ex_getr dX0_span_17 wf_RX0_9 (zDy_o hd0) rfl (zDy_r1 hd0) ?_
  refine ex_step (pc' := 21) dX0_span_20 rfl ?_
  refine ex_callS (as := [.ref (d0 + 1), .int x2]) (st := [.int (zat I (d0 + 2) 7 x1), .int (zat I (d0 + 1) 7 x1)]) dX0_span_21 zmX11_at zl_RX0_67 zsX11_at rfl (Nat.le_of_ble_eq_true rfl) (Nat.le_of_ble_eq_true rfl) (S_at' (by decide) (zDy_a1 hd0)) ?_
  refine ex_step (pc' := 25) dX0_span_24 rfl ?_
  refine ex_getr dX0_span_25 wf_RX0_15 (zDy_o hd0) rfl (zDy_r2 hd0) ?_
  refine ex_step (pc' := 29) dX0_span_28 rfl ?_
  refine ex_callS (as := [.ref (d0 + 2), .int x2]) (st := [.int (zat I (d0 + 1) 7 x2), .int (zat I (d0 + 2) 7 x1), .int (zat I (d0 + 1) 7 x1)]) dX0_span_29 zmX11_at zl_RX0_67 zsX11_at rfl (Nat.le_of_ble_eq_true rfl) (Nat.le_of_ble_eq_true rfl) (S_at' (by decide) (zDy_a2 hd0)) ?_
  obtain ⟨v1, hc, h⟩ := h
  refine ex_callS (as := [.int (zat I (d0 + 1) 7 x1), .int (zat I (d0 + 2) 7 x1), .int (zat I (d0 + 1) 7 x2), .int (zat I (d0 + 2) 7 x2)]) (st := []) dX0_span_32 zmX11_apart zl_RX0_143 zsX11_apart rfl (Nat.le_of_ble_eq_true rfl) (Nat.le_of_ble_eq_true rfl) hc ?_
  rw [h]; exact ex_ret (v := some (.int v1)) ⟨dX0_span_35, _, rfl, rfl⟩
set_option maxHeartbeats 4000000 in
theorem BX0_turnsAbout_0 {d : Nat} {Z : zZ} {I : zI} {J : zJ} {o : zO} {d0 : Nat} (x1 : Int32) (x2 : Int32) (x3 : Int32) (hd0 : zDy Z d0) (h : zE (d + 1) kX0_turnsAbout 6 [some (.ref d0), some (.int x1), some (.int x2), some (.int x3), some (.int 0), some (.int 0), none, none, none] [] Z I J o) : zE (d + 1) kX0_turnsAbout 0 [some (.ref d0), some (.int x1), some (.int x2), some (.int x3), none, none, none, none, none] [] Z I J o := by
  refine ex_step (pc' := 1) (st' := [.int 0]) dX0_turnsAbout_0 rfl ?_
  refine ex_step (pc' := 3) (ls' := [some (.ref d0), some (.int x1), some (.int x2), some (.int x3), some (.int 0), none, none, none, none]) dX0_turnsAbout_1 rfl ?_
  refine ex_step (pc' := 4) (st' := [.int 0]) dX0_turnsAbout_3 rfl ?_
  refine ex_step (pc' := 6) (ls' := [some (.ref d0), some (.int x1), some (.int x2), some (.int x3), some (.int 0), some (.int 0), none, none, none]) dX0_turnsAbout_4 rfl ?_
  exact h
set_option maxHeartbeats 4000000 in
theorem BX0_turnsAbout_6 {d : Nat} {Z : zZ} {I : zI} {J : zJ} {o : zO} {d0 : Nat} (x1 : Int32) (x2 : Int32) (x3 : Int32) (x4 : Int32) (x5 : Int32) (hd0 : zDy Z d0) (h : (((zat I (d0 + 3) 7 x1) ≤ x5 → o = (some (.int x4), Z, I, J)) ∧ (¬ (zat I (d0 + 3) 7 x1) ≤ x5 → (∀ y1 : Int32, y1 = (zat I (d0 + 5) 421 (zpc x1 x5)) → (∀ y2 : Int32, y2 = ((zat I (d0 + 6) 421 (zpc x1 x5)) / 2) → (((y1 &&& 1) = 0 → zE (d + 1) kX0_turnsAbout 6 [some (.ref d0), some (.int x1), some (.int x2), some (.int x3), some (.int x4), some (.int (x5 + 1)), none, none, none] [] Z I J o) ∧ (¬ (y1 &&& 1) = 0 → (((y2 - y2 / 12 * 12) ≤ x2 → zE (d + 1) kX0_turnsAbout 6 [some (.ref d0), some (.int x1), some (.int x2), some (.int x3), some (.int x4), some (.int (x5 + 1)), none, none, none] [] Z I J o) ∧ (¬ (y2 - y2 / 12 * 12) ≤ x2 → ((¬ (y2 / 12) = x3 → zE (d + 1) kX0_turnsAbout 6 [some (.ref d0), some (.int x1), some (.int x2), some (.int x3), some (.int x4), some (.int (x5 + 1)), none, none, none] [] Z I J o) ∧ ((y2 / 12) = x3 → ((¬ y1 = 1 → zE (d + 1) kX0_turnsAbout 6 [some (.ref d0), some (.int x1), some (.int x2), some (.int x3), some (.int (x4 + (-1))), some (.int (x5 + 1)), none, none, none] [] Z I J o) ∧ (y1 = 1 → zE (d + 1) kX0_turnsAbout 6 [some (.ref d0), some (.int x1), some (.int x2), some (.int x3), some (.int (x4 + 1)), some (.int (x5 + 1)), none, none, none] [] Z I J o))))))))))))) : zE (d + 1) kX0_turnsAbout 6 [some (.ref d0), some (.int x1), some (.int x2), some (.int x3), some (.int x4), some (.int x5), none, none, none] [] Z I J o := by
  refine ex_step (pc' := 8) dX0_turnsAbout_6 rfl ?_
  refine ex_step (pc' := 9) dX0_turnsAbout_8 rfl ?_
  refine ex_getr dX0_turnsAbout_9 wf_RX0_18 (zDy_o hd0) rfl (zDy_r3 hd0) ?_
  refine ex_step (pc' := 13) dX0_turnsAbout_12 rfl ?_
  refine ex_callS (as := [.ref (d0 + 3), .int x1]) (st := [.int x5]) dX0_turnsAbout_13 zmX11_at zl_RX0_67 zsX11_at rfl (Nat.le_of_ble_eq_true rfl) (Nat.le_of_ble_eq_true rfl) (S_at' (by decide) (zDy_a3 hd0)) ?_
  refine ex_icmp (pc' := 98) dX0_turnsAbout_16 (by decide) (fun c => ?_) (fun c => ?_)
  · have h := h.1 c
    refine ex_step (pc' := 100) dX0_turnsAbout_98 rfl ?_
    rw [h]; exact ex_ret (v := some (.int x4)) ⟨dX0_turnsAbout_100, _, rfl, rfl⟩
  · have h := h.2 c
    refine ex_step (pc' := 20) dX0_turnsAbout_19 rfl ?_
    refine ex_step (pc' := 22) dX0_turnsAbout_20 rfl ?_
    refine ex_callS (as := [.int x1, .int x5]) (st := []) dX0_turnsAbout_22 zmX11_pieceOf zl_RX0_83 zsX11_pieceOf rfl (Nat.le_of_ble_eq_true rfl) (Nat.le_of_ble_eq_true rfl) S_pieceOf ?_
    refine ex_step (pc' := 27) (ls' := [some (.ref d0), some (.int x1), some (.int x2), some (.int x3), some (.int x4), some (.int x5), some (.int (zpc x1 x5)), none, none]) dX0_turnsAbout_25 rfl ?_
    refine ex_step (pc' := 28) dX0_turnsAbout_27 rfl ?_
    refine ex_getr dX0_turnsAbout_28 wf_RX0_24 (zDy_o hd0) rfl (zDy_r5 hd0) ?_
    refine ex_step (pc' := 33) dX0_turnsAbout_31 rfl ?_
    refine ex_callS (as := [.ref (d0 + 5), .int (zpc x1 x5)]) (st := []) dX0_turnsAbout_33 zmX11_at zl_RX0_67 zsX11_at rfl (Nat.le_of_ble_eq_true rfl) (Nat.le_of_ble_eq_true rfl) (S_at' (by decide) (zDy_a5 hd0)) ?_
    refine ex_topi (fun y1 ey1 => ?_)
    have h := h y1 ey1
    refine ex_step (pc' := 38) (ls' := [some (.ref d0), some (.int x1), some (.int x2), some (.int x3), some (.int x4), some (.int x5), some (.int (zpc x1 x5)), some (.int y1), none]) dX0_turnsAbout_36 rfl ?_
    refine ex_step (pc' := 39) dX0_turnsAbout_38 rfl ?_
    refine ex_getr dX0_turnsAbout_39 wf_RX0_27 (zDy_o hd0) rfl (zDy_r6 hd0) ?_
    refine ex_step (pc' := 44) dX0_turnsAbout_42 rfl ?_
    refine ex_callS (as := [.ref (d0 + 6), .int (zpc x1 x5)]) (st := []) dX0_turnsAbout_44 zmX11_at zl_RX0_67 zsX11_at rfl (Nat.le_of_ble_eq_true rfl) (Nat.le_of_ble_eq_true rfl) (S_at' (by decide) (zDy_a6 hd0)) ?_
    refine ex_step (pc' := 48) (st' := [.int 2, .int (zat I (d0 + 6) 421 (zpc x1 x5))]) dX0_turnsAbout_47 rfl ?_
    refine ex_div dX0_turnsAbout_48 (by decide) ?_
    refine ex_topi (fun y2 ey2 => ?_)
    have h := h y2 ey2
    refine ex_step (pc' := 51) (ls' := [some (.ref d0), some (.int x1), some (.int x2), some (.int x3), some (.int x4), some (.int x5), some (.int (zpc x1 x5)), some (.int y1), some (.int y2)]) dX0_turnsAbout_49 rfl ?_
    refine ex_step (pc' := 53) dX0_turnsAbout_51 rfl ?_
    refine ex_step (pc' := 54) (st' := [.int 1, .int y1]) dX0_turnsAbout_53 rfl ?_
    refine ex_step (pc' := 55) dX0_turnsAbout_54 rfl ?_
    refine ex_if (pc' := 92) dX0_turnsAbout_55 (by decide) (fun c => ?_) (fun c => ?_)
    · have h := h.1 c
      refine ex_step (pc' := 95) (ls' := [some (.ref d0), some (.int x1), some (.int x2), some (.int x3), some (.int x4), some (.int (x5 + 1)), some (.int (zpc x1 x5)), some (.int y1), some (.int y2)]) dX0_turnsAbout_92 rfl ?_
      refine ex_step (pc' := 6) dX0_turnsAbout_95 rfl ?_
      exact ex_less (ls' := [some (.ref d0), some (.int x1), some (.int x2), some (.int x3), some (.int x4), some (.int (x5 + 1)), none, none, none]) ⟨rfl, ⟨rfl, ⟨rfl, ⟨rfl, ⟨rfl, ⟨rfl, trivial⟩⟩⟩⟩⟩⟩ h
    · have h := h.2 c
      refine ex_step (pc' := 60) dX0_turnsAbout_58 rfl ?_
      refine ex_step (pc' := 62) (st' := [.int 12, .int y2]) dX0_turnsAbout_60 rfl ?_
      refine ex_rem dX0_turnsAbout_62 (by decide) ?_
      refine ex_step (pc' := 64) dX0_turnsAbout_63 rfl ?_
      refine ex_icmp (pc' := 92) dX0_turnsAbout_64 (by decide) (fun c => ?_) (fun c => ?_)
      · have h := h.1 c
        refine ex_step (pc' := 95) (ls' := [some (.ref d0), some (.int x1), some (.int x2), some (.int x3), some (.int x4), some (.int (x5 + 1)), some (.int (zpc x1 x5)), some (.int y1), some (.int y2)]) dX0_turnsAbout_92 rfl ?_
        refine ex_step (pc' := 6) dX0_turnsAbout_95 rfl ?_
        exact ex_less (ls' := [some (.ref d0), some (.int x1), some (.int x2), some (.int x3), some (.int x4), some (.int (x5 + 1)), none, none, none]) ⟨rfl, ⟨rfl, ⟨rfl, ⟨rfl, ⟨rfl, ⟨rfl, trivial⟩⟩⟩⟩⟩⟩ h
      · have h := h.2 c
        refine ex_step (pc' := 69) dX0_turnsAbout_67 rfl ?_
        refine ex_step (pc' := 71) (st' := [.int 12, .int y2]) dX0_turnsAbout_69 rfl ?_
        refine ex_div dX0_turnsAbout_71 (by decide) ?_
        refine ex_step (pc' := 73) dX0_turnsAbout_72 rfl ?_
        refine ex_icmp (pc' := 92) dX0_turnsAbout_73 (by decide) (fun c => ?_) (fun c => ?_)
        · have h := h.1 c
          refine ex_step (pc' := 95) (ls' := [some (.ref d0), some (.int x1), some (.int x2), some (.int x3), some (.int x4), some (.int (x5 + 1)), some (.int (zpc x1 x5)), some (.int y1), some (.int y2)]) dX0_turnsAbout_92 rfl ?_
          refine ex_step (pc' := 6) dX0_turnsAbout_95 rfl ?_
          exact ex_less (ls' := [some (.ref d0), some (.int x1), some (.int x2), some (.int x3), some (.int x4), some (.int (x5 + 1)), none, none, none]) ⟨rfl, ⟨rfl, ⟨rfl, ⟨rfl, ⟨rfl, ⟨rfl, trivial⟩⟩⟩⟩⟩⟩ h
        · have h := h.2 (Classical.not_not.mp c)
          refine ex_step (pc' := 78) dX0_turnsAbout_76 rfl ?_
          refine ex_step (pc' := 80) dX0_turnsAbout_78 rfl ?_
          refine ex_step (pc' := 81) (st' := [.int 1, .int y1, .int x4]) dX0_turnsAbout_80 rfl ?_
          refine ex_icmp (pc' := 88) dX0_turnsAbout_81 (by decide) (fun c => ?_) (fun c => ?_)
          · have h := h.1 c
            refine ex_step (pc' := 89) (st' := [.int (-1), .int x4]) dX0_turnsAbout_88 rfl ?_
            refine ex_step (pc' := 90) dX0_turnsAbout_89 rfl ?_
            refine ex_step (pc' := 92) (ls' := [some (.ref d0), some (.int x1), some (.int x2), some (.int x3), some (.int (x4 + (-1))), some (.int x5), some (.int (zpc x1 x5)), some (.int y1), some (.int y2)]) dX0_turnsAbout_90 rfl ?_
            refine ex_step (pc' := 95) (ls' := [some (.ref d0), some (.int x1), some (.int x2), some (.int x3), some (.int (x4 + (-1))), some (.int (x5 + 1)), some (.int (zpc x1 x5)), some (.int y1), some (.int y2)]) dX0_turnsAbout_92 rfl ?_
            refine ex_step (pc' := 6) dX0_turnsAbout_95 rfl ?_
            exact ex_less (ls' := [some (.ref d0), some (.int x1), some (.int x2), some (.int x3), some (.int (x4 + (-1))), some (.int (x5 + 1)), none, none, none]) ⟨rfl, ⟨rfl, ⟨rfl, ⟨rfl, ⟨rfl, ⟨rfl, trivial⟩⟩⟩⟩⟩⟩ h
          · have h := h.2 (Classical.not_not.mp c)
            refine ex_step (pc' := 85) (st' := [.int 1, .int x4]) dX0_turnsAbout_84 rfl ?_
            refine ex_step (pc' := 89) dX0_turnsAbout_85 rfl ?_
            refine ex_step (pc' := 90) dX0_turnsAbout_89 rfl ?_
            refine ex_step (pc' := 92) (ls' := [some (.ref d0), some (.int x1), some (.int x2), some (.int x3), some (.int (x4 + 1)), some (.int x5), some (.int (zpc x1 x5)), some (.int y1), some (.int y2)]) dX0_turnsAbout_90 rfl ?_
            refine ex_step (pc' := 95) (ls' := [some (.ref d0), some (.int x1), some (.int x2), some (.int x3), some (.int (x4 + 1)), some (.int (x5 + 1)), some (.int (zpc x1 x5)), some (.int y1), some (.int y2)]) dX0_turnsAbout_92 rfl ?_
            refine ex_step (pc' := 6) dX0_turnsAbout_95 rfl ?_
            exact ex_less (ls' := [some (.ref d0), some (.int x1), some (.int x2), some (.int x3), some (.int (x4 + 1)), some (.int (x5 + 1)), none, none, none]) ⟨rfl, ⟨rfl, ⟨rfl, ⟨rfl, ⟨rfl, ⟨rfl, trivial⟩⟩⟩⟩⟩⟩ h
set_option maxHeartbeats 4000000 in
theorem BX1_pass_0 {d : Nat} {Z : zZ} {I : zI} {J : zJ} {o : zO} {t u : Nat} {t1 : Nat} {d2 : Nat} {d3 : Nat} (x4 : Int32) (hL : zLY Z t u) (ht1 : zTx Z t1) (hd2 : zDy Z d2) (hd3 : zDy Z d3) (h : (∃ (I1 : zI), zE (d + 4) kX0_copy 0 [some (.ref d3), some (.ref d2)] [] Z I J (none, Z, I1, J) ∧ (∀ I2 : zI, I2 = zu I1 413 0 0 → (∀ I3 : zI, I3 = zu I2 413 1 0 → zE (d + 5) kX1_pass 21 [some (.ref 413), some (.ref t1), none, some (.ref d3), some (.int x4), some (.int 1), some (.int 0), none] [] Z I3 J o)))) : zE (d + 5) kX1_pass 0 [some (.ref 413), some (.ref t1), some (.ref d2), some (.ref d3), some (.int x4), none, none, none] [] Z I J o := by
  refine ex_step (pc' := 1) dX1_pass_0 rfl ?_
  refine ex_step (pc' := 2) dX1_pass_1 rfl ?_
  obtain ⟨I1, hc, h⟩ := h
  refine ex_callV (as := [.ref d2]) (st := []) (ci := 0) dX1_pass_2 zmX0_copy zl_RX1_15 ziX0_copy zvX0_copy (by decide) (zDy_o hd3) rfl (Nat.le_of_ble_eq_true rfl) (Nat.le_of_ble_eq_true rfl) hc ?_
  refine ex_step (pc' := 6) dX1_pass_5 rfl ?_
  refine ex_step (pc' := 7) (st' := [.int 0, .ref 413]) dX1_pass_6 rfl ?_
  refine ex_putiN dX1_pass_7 (wp_RX1_21 _) (ly_a413 hL) rfl ⟨rfl, rfl⟩ (fun I2 eI2 => ?_)
  have h := h I2 eI2
  refine ex_step (pc' := 11) dX1_pass_10 rfl ?_
  refine ex_step (pc' := 12) (st' := [.int 0, .ref 413]) dX1_pass_11 rfl ?_
  refine ex_putiN dX1_pass_12 (wp_RX1_25 _) (ly_a413 hL) rfl ⟨rfl, rfl⟩ (fun I3 eI3 => ?_)
  have h := h I3 eI3
  refine ex_step (pc' := 16) (st' := [.int 1]) dX1_pass_15 rfl ?_
  refine ex_step (pc' := 18) (ls' := [some (.ref 413), some (.ref t1), some (.ref d2), some (.ref d3), some (.int x4), some (.int 1), none, none]) dX1_pass_16 rfl ?_
  refine ex_step (pc' := 19) (st' := [.int 0]) dX1_pass_18 rfl ?_
  refine ex_step (pc' := 21) (ls' := [some (.ref 413), some (.ref t1), some (.ref d2), some (.ref d3), some (.int x4), some (.int 1), some (.int 0), none]) dX1_pass_19 rfl ?_
  exact ex_less (ls' := [some (.ref 413), some (.ref t1), none, some (.ref d3), some (.int x4), some (.int 1), some (.int 0), none]) ⟨rfl, ⟨rfl, ⟨rfl, ⟨rfl, ⟨rfl, ⟨rfl, trivial⟩⟩⟩⟩⟩⟩ h
set_option maxHeartbeats 4000000 in
theorem BX1_pass_21 {d : Nat} {Z : zZ} {I : zI} {J : zJ} {o : zO} {t u : Nat} {t1 : Nat} {d3 : Nat} (x4 : Int32) (x5 : Int32) (x6 : Int32) (hL : zLY Z t u) (ht1 : zTx Z t1) (hd3 : zDy Z d3) (h : ((420 < x6 → o = (none, Z, I, J)) ∧ (¬ 420 < x6 → ((x5 = 0 → o = (none, Z, I, J)) ∧ (¬ x5 = 0 → zE (d + 5) kX1_pass 37 [some (.ref 413), some (.ref t1), none, some (.ref d3), some (.int x4), none, some (.int x6), some (.int 0)] [] Z I J o))))) : zE (d + 5) kX1_pass 21 [some (.ref 413), some (.ref t1), none, some (.ref d3), some (.int x4), some (.int x5), some (.int x6), none] [] Z I J o := by
  refine ex_step (pc' := 23) dX1_pass_21 rfl ?_
  refine ex_step (pc' := 26) (st' := [.int 420, .int x6]) dX1_pass_23 rfl ?_
  refine ex_icmp (pc' := 127) dX1_pass_26 (by decide) (fun c => ?_) (fun c => ?_)
  · have h := h.1 c
    rw [h]; exact ex_ret (v := none) ⟨dX1_pass_127, rfl⟩
  · have h := h.2 c
    refine ex_step (pc' := 31) dX1_pass_29 rfl ?_
    refine ex_if (pc' := 127) dX1_pass_31 (by decide) (fun c => ?_) (fun c => ?_)
    · have h := h.1 c
      rw [h]; exact ex_ret (v := none) ⟨dX1_pass_127, rfl⟩
    · have h := h.2 c
      refine ex_step (pc' := 35) (st' := [.int 0]) dX1_pass_34 rfl ?_
      refine ex_step (pc' := 37) (ls' := [some (.ref 413), some (.ref t1), none, some (.ref d3), some (.int x4), some (.int x5), some (.int x6), some (.int 0)]) dX1_pass_35 rfl ?_
      exact ex_less (ls' := [some (.ref 413), some (.ref t1), none, some (.ref d3), some (.int x4), none, some (.int x6), some (.int 0)]) ⟨rfl, ⟨rfl, ⟨rfl, ⟨rfl, ⟨rfl, ⟨rfl, trivial⟩⟩⟩⟩⟩⟩ h
set_option maxHeartbeats 4000000 in
theorem BX1_pass_37 {d : Nat} {Z : zZ} {I : zI} {J : zJ} {o : zO} {t u : Nat} {t1 : Nat} {d3 : Nat} (x4 : Int32) (x6 : Int32) (x7 : Int32) (hL : zLY Z t u) (ht1 : zTx Z t1) (hd3 : zDy Z d3) (h : (((I t1 2) ≤ x7 → (∃ (v1 : Int32) (I2 : zI), zE (d + 4) kX1_windOnce 0 [some (.ref 413), some (.ref t1), some (.ref d3), none, none, none, none] [] Z I J (some (.int v1), Z, I2, J) ∧ ((v1 ≤ 0 → (∀ I3 : zI, I3 = zu I2 413 0 ((I2 413 0) + 0) → (∀ I4 : zI, I4 = zu I3 413 1 ((I3 413 1) + v1) → zE (d + 5) kX1_pass 21 [some (.ref 413), some (.ref t1), none, some (.ref d3), some (.int x4), some (.int 0), some (.int (x6 + 1)), none] [] Z I4 J o))) ∧ (¬ v1 ≤ 0 → (∀ I5 : zI, I5 = zu I2 413 0 ((I2 413 0) + 1) → (∀ I6 : zI, I6 = zu I5 413 1 ((I5 413 1) + v1) → zE (d + 5) kX1_pass 21 [some (.ref 413), some (.ref t1), none, some (.ref d3), some (.int x4), some (.int 1), some (.int (x6 + 1)), none] [] Z I6 J o)))))) ∧ (¬ (I t1 2) ≤ x7 → (∃ (v7 : Int32), zE (d + 4) kX1_wishOf 0 [some (.ref 413), some (.ref t1), some (.ref d3), some (.int x4), some (.int x7)] [] Z I J (some (.int v7), Z, I, J) ∧ (∀ I8 : zI, I8 = zpt I 414 7 x7 v7 → zE (d + 5) kX1_pass 37 [some (.ref 413), some (.ref t1), none, some (.ref d3), some (.int x4), none, some (.int x6), some (.int (x7 + 1))] [] Z I8 J o))))) : zE (d + 5) kX1_pass 37 [some (.ref 413), some (.ref t1), none, some (.ref d3), some (.int x4), none, some (.int x6), some (.int x7)] [] Z I J o := by
  refine ex_step (pc' := 39) dX1_pass_37 rfl ?_
  refine ex_step (pc' := 40) dX1_pass_39 rfl ?_
  refine ex_geti dX1_pass_40 wf_RX1_28 (zTx_o ht1) rfl ?_
  refine ex_icmp (pc' := 71) dX1_pass_43 (by decide) (fun c => ?_) (fun c => ?_)
  · have h := h.1 c
    refine ex_step (pc' := 72) dX1_pass_71 rfl ?_
    refine ex_step (pc' := 73) dX1_pass_72 rfl ?_
    refine ex_step (pc' := 74) dX1_pass_73 rfl ?_
    obtain ⟨v1, I2, hc, h⟩ := h
    refine ex_callV (as := [.ref t1, .ref d3]) (st := []) (ci := 1) dX1_pass_74 zmX1_windOnce zl_RX1_41 ziX1_windOnce zvX1_windOnce (by decide) (ly_a413 hL) rfl (Nat.le_of_ble_eq_true rfl) (Nat.le_of_ble_eq_true rfl) hc ?_
    refine ex_step (pc' := 79) (ls' := [some (.ref 413), some (.ref t1), none, some (.ref d3), some (.int x4), none, some (.int x6), some (.int v1)]) dX1_pass_77 rfl ?_
    refine ex_step (pc' := 81) dX1_pass_79 rfl ?_
    refine ex_if (pc' := 88) dX1_pass_81 (by decide) (fun c => ?_) (fun c => ?_)
    · have h := h.1 c
      refine ex_step (pc' := 89) (st' := [.int 0]) dX1_pass_88 rfl ?_
      refine ex_step (pc' := 91) (ls' := [some (.ref 413), some (.ref t1), none, some (.ref d3), some (.int x4), some (.int 0), some (.int x6), some (.int v1)]) dX1_pass_89 rfl ?_
      refine ex_step (pc' := 92) dX1_pass_91 rfl ?_
      refine ex_step (pc' := 93) dX1_pass_92 rfl ?_
      refine ex_geti dX1_pass_93 wf_RX1_21 (ly_a413 hL) rfl ?_
      refine ex_step (pc' := 98) dX1_pass_96 rfl ?_
      refine ex_if (pc' := 105) dX1_pass_98 (by decide) (fun c => ?_) (fun c => ?_)
      · skip
        refine ex_step (pc' := 106) (st' := [.int 0, .int (I2 413 0), .ref 413]) dX1_pass_105 rfl ?_
        refine ex_step (pc' := 107) dX1_pass_106 rfl ?_
        refine ex_putiN dX1_pass_107 (wp_RX1_21 _) (ly_a413 hL) rfl ⟨rfl, rfl⟩ (fun I3 eI3 => ?_)
        have h := h I3 eI3
        refine ex_step (pc' := 111) dX1_pass_110 rfl ?_
        refine ex_step (pc' := 112) dX1_pass_111 rfl ?_
        refine ex_geti dX1_pass_112 wf_RX1_25 (ly_a413 hL) rfl ?_
        refine ex_step (pc' := 117) dX1_pass_115 rfl ?_
        refine ex_step (pc' := 118) dX1_pass_117 rfl ?_
        refine ex_putiN dX1_pass_118 (wp_RX1_25 _) (ly_a413 hL) rfl ⟨rfl, rfl⟩ (fun I4 eI4 => ?_)
        have h := h I4 eI4
        refine ex_step (pc' := 124) (ls' := [some (.ref 413), some (.ref t1), none, some (.ref d3), some (.int x4), some (.int 0), some (.int (x6 + 1)), some (.int v1)]) dX1_pass_121 rfl ?_
        refine ex_step (pc' := 21) dX1_pass_124 rfl ?_
        exact ex_less (ls' := [some (.ref 413), some (.ref t1), none, some (.ref d3), some (.int x4), some (.int 0), some (.int (x6 + 1)), none]) ⟨rfl, ⟨rfl, ⟨rfl, ⟨rfl, ⟨rfl, ⟨rfl, trivial⟩⟩⟩⟩⟩⟩ h
      · exact absurd (show (0 : Int32) = 0 from by decide) c
    · have h := h.2 c
      refine ex_step (pc' := 85) (st' := [.int 1]) dX1_pass_84 rfl ?_
      refine ex_step (pc' := 89) dX1_pass_85 rfl ?_
      refine ex_step (pc' := 91) (ls' := [some (.ref 413), some (.ref t1), none, some (.ref d3), some (.int x4), some (.int 1), some (.int x6), some (.int v1)]) dX1_pass_89 rfl ?_
      refine ex_step (pc' := 92) dX1_pass_91 rfl ?_
      refine ex_step (pc' := 93) dX1_pass_92 rfl ?_
      refine ex_geti dX1_pass_93 wf_RX1_21 (ly_a413 hL) rfl ?_
      refine ex_step (pc' := 98) dX1_pass_96 rfl ?_
      refine ex_if (pc' := 105) dX1_pass_98 (by decide) (fun c => ?_) (fun c => ?_)
      · exact absurd (show (1 : Int32) = 0 from c) (by decide)
      · skip
        refine ex_step (pc' := 102) (st' := [.int 1, .int (I2 413 0), .ref 413]) dX1_pass_101 rfl ?_
        refine ex_step (pc' := 106) dX1_pass_102 rfl ?_
        refine ex_step (pc' := 107) dX1_pass_106 rfl ?_
        refine ex_putiN dX1_pass_107 (wp_RX1_21 _) (ly_a413 hL) rfl ⟨rfl, rfl⟩ (fun I5 eI5 => ?_)
        have h := h I5 eI5
        refine ex_step (pc' := 111) dX1_pass_110 rfl ?_
        refine ex_step (pc' := 112) dX1_pass_111 rfl ?_
        refine ex_geti dX1_pass_112 wf_RX1_25 (ly_a413 hL) rfl ?_
        refine ex_step (pc' := 117) dX1_pass_115 rfl ?_
        refine ex_step (pc' := 118) dX1_pass_117 rfl ?_
        refine ex_putiN dX1_pass_118 (wp_RX1_25 _) (ly_a413 hL) rfl ⟨rfl, rfl⟩ (fun I6 eI6 => ?_)
        have h := h I6 eI6
        refine ex_step (pc' := 124) (ls' := [some (.ref 413), some (.ref t1), none, some (.ref d3), some (.int x4), some (.int 1), some (.int (x6 + 1)), some (.int v1)]) dX1_pass_121 rfl ?_
        refine ex_step (pc' := 21) dX1_pass_124 rfl ?_
        exact ex_less (ls' := [some (.ref 413), some (.ref t1), none, some (.ref d3), some (.int x4), some (.int 1), some (.int (x6 + 1)), none]) ⟨rfl, ⟨rfl, ⟨rfl, ⟨rfl, ⟨rfl, ⟨rfl, trivial⟩⟩⟩⟩⟩⟩ h
  · have h := h.2 c
    refine ex_step (pc' := 47) dX1_pass_46 rfl ?_
    refine ex_getr dX1_pass_47 wf_RX1_9 (ly_a413 hL) rfl (ly_r413_2 hL) ?_
    refine ex_step (pc' := 52) dX1_pass_50 rfl ?_
    refine ex_step (pc' := 53) dX1_pass_52 rfl ?_
    refine ex_step (pc' := 54) dX1_pass_53 rfl ?_
    refine ex_step (pc' := 55) dX1_pass_54 rfl ?_
    refine ex_step (pc' := 57) dX1_pass_55 rfl ?_
    refine ex_step (pc' := 59) dX1_pass_57 rfl ?_
    obtain ⟨v7, hc, h⟩ := h
    refine ex_callV (as := [.ref t1, .ref d3, .int x4, .int x7]) (st := [.int x7, .ref 414]) (ci := 1) dX1_pass_59 zmX1_wishOf zl_RX1_33 ziX1_wishOf zvX1_wishOf (by decide) (ly_a413 hL) rfl (Nat.le_of_ble_eq_true rfl) (Nat.le_of_ble_eq_true rfl) hc ?_
    obtain ⟨I8, eI8⟩ : ∃ q : zI, q = zpt I 414 7 x7 v7 := ⟨_, rfl⟩
    have h := h I8 eI8
    refine ex_callS (as := [.ref 414, .int x7, .int v7]) (st := []) dX1_pass_62 zmX11_put zl_RX1_37 zsX11_put rfl (Nat.le_of_ble_eq_true rfl) (Nat.le_of_ble_eq_true rfl) (eI8 ▸ (S_put' (by decide) (ly_a414 hL))) ?_
    refine ex_step (pc' := 68) (ls' := [some (.ref 413), some (.ref t1), none, some (.ref d3), some (.int x4), none, some (.int x6), some (.int (x7 + 1))]) dX1_pass_65 rfl ?_
    refine ex_step (pc' := 37) dX1_pass_68 rfl ?_
    exact h
set_option maxHeartbeats 4000000 in
theorem BX1_wishOf_0 {d : Nat} {Z : zZ} {I : zI} {J : zJ} {o : zO} {t u : Nat} {t1 : Nat} {d2 : Nat} (x3 : Int32) (x4 : Int32) (hL : zLY Z t u) (ht1 : zTx Z t1) (hd2 : zDy Z d2) (h : ((x3.toInt < 1 ∨ 4 < x3.toInt → o = (some (.int 0), Z, I, J)) ∧ (x3 = 1 → o = (some (.int (zat I (d2 + 3) 7 x4)), Z, I, J)) ∧ (x3 = 2 → (∃ (v1 : Int32), zE (d + 1) kX0_left 0 [some (.ref d2), some (.ref t1), some (.int x4)] [] Z I J (some (.int v1), Z, I, J) ∧ o = (some (.int v1), Z, I, J))) ∧ (x3 = 3 → (∃ (v2 : Int32), zE (d + 1) kX0_lastOf 0 [some (.ref d2), some (.int x4), none] [] Z I J (some (.int v2), Z, I, J) ∧ o = (some (.int (zat I (d2 + 8) 421 v2)), Z, I, J))) ∧ (x3 = 4 → (∃ (v3 : Int32), zE (d + 1) kX11_lot 0 [some (.int 1000), some (.int (I t1 4)), some (.int (((2000 : Int32) + ((8 : Int32) * ((I d2 0) + (I 413 0)))) + x4)), none] [] Z I J (some (.int v3), Z, I, J) ∧ o = (some (.int v3), Z, I, J))))) : zE (d + 2) kX1_wishOf 0 [some (.ref 413), some (.ref t1), some (.ref d2), some (.int x3), some (.int x4)] [] Z I J o := by
  refine ex_step (pc' := 1) dX1_wishOf_0 rfl ?_
  refine ex_tab dX1_wishOf_1 (fun c => ?_) (fun k off hk ho hx => ?_)
  · refine ⟨94, by decide, ?_⟩
    have h := h.1 c
    refine ex_step (pc' := 95) (st' := [.int 0]) dX1_wishOf_94 rfl ?_
    rw [h]; exact ex_ret (v := some (.int 0)) ⟨dX1_wishOf_95, _, rfl, rfl⟩
  · have h := h.2
    match k, hk, ho, hx with
    | 0, hk, ho, hx =>
      cases ho
      refine ⟨32, by decide, ?_⟩
      have h := h.1 (Int32.toInt_inj.mp (hx.trans (by decide)))
      refine ex_step (pc' := 33) dX1_wishOf_32 rfl ?_
      refine ex_getr dX1_wishOf_33 wf_RX1_45 (zDy_o hd2) rfl (zDy_r3 hd2) ?_
      refine ex_step (pc' := 38) dX1_wishOf_36 rfl ?_
      refine ex_callS (as := [.ref (d2 + 3), .int x4]) (st := []) dX1_wishOf_38 zmX11_at zl_RX1_48 zsX11_at rfl (Nat.le_of_ble_eq_true rfl) (Nat.le_of_ble_eq_true rfl) (S_at' (by decide) (zDy_a3 hd2)) ?_
      rw [h]; exact ex_ret (v := some (.int (zat I (d2 + 3) 7 x4))) ⟨dX1_wishOf_41, _, rfl, rfl⟩
    | 1, hk, ho, hx =>
      cases ho
      refine ⟨42, by decide, ?_⟩
      have h := h.2.1 (Int32.toInt_inj.mp (hx.trans (by decide)))
      refine ex_step (pc' := 43) dX1_wishOf_42 rfl ?_
      refine ex_step (pc' := 44) dX1_wishOf_43 rfl ?_
      refine ex_step (pc' := 46) dX1_wishOf_44 rfl ?_
      obtain ⟨v1, hc, h⟩ := h
      refine ex_callV (as := [.ref t1, .int x4]) (st := []) (ci := 0) dX1_wishOf_46 zmX0_left zl_RX1_52 ziX0_left zvX0_left (by decide) (zDy_o hd2) rfl (Nat.le_of_ble_eq_true rfl) (Nat.le_of_ble_eq_true rfl) hc ?_
      rw [h]; exact ex_ret (v := some (.int v1)) ⟨dX1_wishOf_49, _, rfl, rfl⟩
    | 2, hk, ho, hx =>
      cases ho
      refine ⟨50, by decide, ?_⟩
      have h := h.2.2.1 (Int32.toInt_inj.mp (hx.trans (by decide)))
      refine ex_step (pc' := 51) dX1_wishOf_50 rfl ?_
      refine ex_getr dX1_wishOf_51 wf_RX1_56 (zDy_o hd2) rfl (zDy_r8 hd2) ?_
      refine ex_step (pc' := 55) dX1_wishOf_54 rfl ?_
      refine ex_step (pc' := 57) dX1_wishOf_55 rfl ?_
      obtain ⟨v2, hc, h⟩ := h
      refine ex_callV (as := [.int x4]) (st := [.ref (d2 + 8)]) (ci := 0) dX1_wishOf_57 zmX0_lastOf zl_RX1_59 ziX0_lastOf zvX0_lastOf (by decide) (zDy_o hd2) rfl (Nat.le_of_ble_eq_true rfl) (Nat.le_of_ble_eq_true rfl) hc ?_
      refine ex_callS (as := [.ref (d2 + 8), .int v2]) (st := []) dX1_wishOf_60 zmX11_at zl_RX1_48 zsX11_at rfl (Nat.le_of_ble_eq_true rfl) (Nat.le_of_ble_eq_true rfl) (S_at' (by decide) (zDy_a8 hd2)) ?_
      rw [h]; exact ex_ret (v := some (.int (zat I (d2 + 8) 421 v2))) ⟨dX1_wishOf_63, _, rfl, rfl⟩
    | 3, hk, ho, hx =>
      cases ho
      refine ⟨64, by decide, ?_⟩
      have h := h.2.2.2 (Int32.toInt_inj.mp (hx.trans (by decide)))
      refine ex_step (pc' := 67) (st' := [.int 1000]) dX1_wishOf_64 rfl ?_
      refine ex_step (pc' := 68) dX1_wishOf_67 rfl ?_
      refine ex_geti dX1_wishOf_68 wf_RX1_63 (zTx_o ht1) rfl ?_
      refine ex_step (pc' := 74) (st' := [.int 2000, .int (I t1 4), .int 1000]) dX1_wishOf_71 rfl ?_
      refine ex_step (pc' := 76) (st' := [.int 8, .int 2000, .int (I t1 4), .int 1000]) dX1_wishOf_74 rfl ?_
      refine ex_step (pc' := 77) dX1_wishOf_76 rfl ?_
      refine ex_geti dX1_wishOf_77 wf_RX1_66 (zDy_o hd2) rfl ?_
      refine ex_step (pc' := 81) dX1_wishOf_80 rfl ?_
      refine ex_geti dX1_wishOf_81 wf_RX1_21 (ly_a413 hL) rfl ?_
      refine ex_step (pc' := 85) dX1_wishOf_84 rfl ?_
      refine ex_step (pc' := 86) dX1_wishOf_85 rfl ?_
      refine ex_step (pc' := 87) dX1_wishOf_86 rfl ?_
      refine ex_step (pc' := 89) dX1_wishOf_87 rfl ?_
      refine ex_step (pc' := 90) dX1_wishOf_89 rfl ?_
      obtain ⟨v3, hc, h⟩ := h
      refine ex_callS (as := [.int 1000, .int (I t1 4), .int (((2000 : Int32) + ((8 : Int32) * ((I d2 0) + (I 413 0)))) + x4)]) (st := []) dX1_wishOf_90 zmX11_lot zl_RX1_69 zsX11_lot rfl (Nat.le_of_ble_eq_true rfl) (Nat.le_of_ble_eq_true rfl) hc ?_
      rw [h]; exact ex_ret (v := some (.int v3)) ⟨dX1_wishOf_93, _, rfl, rfl⟩
    | (k + 4), hk, ho, hx => exact absurd hk (by simp)
set_option maxHeartbeats 4000000 in
theorem BX1_windOnce_0 {d : Nat} {Z : zZ} {I : zI} {J : zJ} {o : zO} {t u : Nat} {t1 : Nat} {d2 : Nat} (hL : zLY Z t u) (ht1 : zTx Z t1) (hd2 : zDy Z d2) (h : zE (d + 4) kX1_windOnce 8 [some (.ref 413), some (.ref t1), some (.ref d2), some (.int 0), some (.int 0), some (.int 0), none] [] Z I J o) : zE (d + 4) kX1_windOnce 0 [some (.ref 413), some (.ref t1), some (.ref d2), none, none, none, none] [] Z I J o := by
  refine ex_step (pc' := 1) (st' := [.int 0]) dX1_windOnce_0 rfl ?_
  refine ex_step (pc' := 2) (ls' := [some (.ref 413), some (.ref t1), some (.ref d2), some (.int 0), none, none, none]) dX1_windOnce_1 rfl ?_
  refine ex_step (pc' := 3) (st' := [.int 0]) dX1_windOnce_2 rfl ?_
  refine ex_step (pc' := 5) (ls' := [some (.ref 413), some (.ref t1), some (.ref d2), some (.int 0), some (.int 0), none, none]) dX1_windOnce_3 rfl ?_
  refine ex_step (pc' := 6) (st' := [.int 0]) dX1_windOnce_5 rfl ?_
  refine ex_step (pc' := 8) (ls' := [some (.ref 413), some (.ref t1), some (.ref d2), some (.int 0), some (.int 0), some (.int 0), none]) dX1_windOnce_6 rfl ?_
  exact h
set_option maxHeartbeats 4000000 in
theorem BX1_windOnce_8 {d : Nat} {Z : zZ} {I : zI} {J : zJ} {o : zO} {t u : Nat} {t1 : Nat} {d2 : Nat} (x3 : Int32) (x4 : Int32) (x5 : Int32) (hL : zLY Z t u) (ht1 : zTx Z t1) (hd2 : zDy Z d2) (h : (((I t1 2) ≤ x5 → o = (some (.int x3), Z, I, J)) ∧ (¬ (I t1 2) ≤ x5 → (∃ (v1 : Int32), zE (d + 3) kX1_greatest 0 [some (.ref 413), some (.ref t1), some (.int x4), none, none, none] [] Z I J (some (.int v1), Z, I, J) ∧ (∀ y2 : Int32, y2 = (x4 ||| ((1 : Int32) <<< (v1 &&& 31))) → (∃ (v3 : Int32) (I4 : zI), zE (d + 3) kX0_takeUp 0 [some (.ref d2), some (.int v1), none, none] [] Z I J (some (.int v3), Z, I4, J) ∧ ((v3 = 0 → zE (d + 4) kX1_windOnce 8 [some (.ref 413), some (.ref t1), some (.ref d2), some (.int (x3 + 0)), some (.int y2), some (.int (x5 + 1)), none] [] Z I4 J o) ∧ (¬ v3 = 0 → zE (d + 4) kX1_windOnce 8 [some (.ref 413), some (.ref t1), some (.ref d2), some (.int (x3 + 1)), some (.int y2), some (.int (x5 + 1)), none] [] Z I4 J o)))))))) : zE (d + 4) kX1_windOnce 8 [some (.ref 413), some (.ref t1), some (.ref d2), some (.int x3), some (.int x4), some (.int x5), none] [] Z I J o := by
  refine ex_step (pc' := 10) dX1_windOnce_8 rfl ?_
  refine ex_step (pc' := 11) dX1_windOnce_10 rfl ?_
  refine ex_geti dX1_windOnce_11 wf_RX1_28 (zTx_o ht1) rfl ?_
  refine ex_icmp (pc' := 58) dX1_windOnce_14 (by decide) (fun c => ?_) (fun c => ?_)
  · have h := h.1 c
    refine ex_step (pc' := 59) dX1_windOnce_58 rfl ?_
    rw [h]; exact ex_ret (v := some (.int x3)) ⟨dX1_windOnce_59, _, rfl, rfl⟩
  · have h := h.2 c
    refine ex_step (pc' := 18) dX1_windOnce_17 rfl ?_
    refine ex_step (pc' := 19) dX1_windOnce_18 rfl ?_
    refine ex_step (pc' := 21) dX1_windOnce_19 rfl ?_
    obtain ⟨v1, hc, h⟩ := h
    refine ex_callV (as := [.ref t1, .int x4]) (st := []) (ci := 1) dX1_windOnce_21 zmX1_greatest zl_RX1_73 ziX1_greatest zvX1_greatest (by decide) (ly_a413 hL) rfl (Nat.le_of_ble_eq_true rfl) (Nat.le_of_ble_eq_true rfl) hc ?_
    refine ex_step (pc' := 26) (ls' := [some (.ref 413), some (.ref t1), some (.ref d2), some (.int x3), some (.int x4), some (.int x5), some (.int v1)]) dX1_windOnce_24 rfl ?_
    refine ex_step (pc' := 28) dX1_windOnce_26 rfl ?_
    refine ex_step (pc' := 29) (st' := [.int 1, .int x4]) dX1_windOnce_28 rfl ?_
    refine ex_step (pc' := 31) dX1_windOnce_29 rfl ?_
    refine ex_step (pc' := 32) dX1_windOnce_31 rfl ?_
    refine ex_step (pc' := 33) dX1_windOnce_32 rfl ?_
    refine ex_topi (fun y2 ey2 => ?_)
    have h := h y2 ey2
    refine ex_step (pc' := 35) (ls' := [some (.ref 413), some (.ref t1), some (.ref d2), some (.int x3), some (.int y2), some (.int x5), some (.int v1)]) dX1_windOnce_33 rfl ?_
    refine ex_step (pc' := 36) dX1_windOnce_35 rfl ?_
    refine ex_step (pc' := 37) dX1_windOnce_36 rfl ?_
    refine ex_step (pc' := 39) dX1_windOnce_37 rfl ?_
    obtain ⟨v3, I4, hc, h⟩ := h
    refine ex_callV (as := [.int v1]) (st := [.int x3]) (ci := 0) dX1_windOnce_39 zmX0_takeUp zl_RX1_76 ziX0_takeUp zvX0_takeUp (by decide) (zDy_o hd2) rfl (Nat.le_of_ble_eq_true rfl) (Nat.le_of_ble_eq_true rfl) hc ?_
    refine ex_if (pc' := 49) dX1_windOnce_42 (by decide) (fun c => ?_) (fun c => ?_)
    · have h := h.1 c
      refine ex_step (pc' := 50) (st' := [.int 0, .int x3]) dX1_windOnce_49 rfl ?_
      refine ex_step (pc' := 51) dX1_windOnce_50 rfl ?_
      refine ex_step (pc' := 52) (ls' := [some (.ref 413), some (.ref t1), some (.ref d2), some (.int (x3 + 0)), some (.int y2), some (.int x5), some (.int v1)]) dX1_windOnce_51 rfl ?_
      refine ex_step (pc' := 55) (ls' := [some (.ref 413), some (.ref t1), some (.ref d2), some (.int (x3 + 0)), some (.int y2), some (.int (x5 + 1)), some (.int v1)]) dX1_windOnce_52 rfl ?_
      refine ex_step (pc' := 8) dX1_windOnce_55 rfl ?_
      exact ex_less (ls' := [some (.ref 413), some (.ref t1), some (.ref d2), some (.int (x3 + 0)), some (.int y2), some (.int (x5 + 1)), none]) ⟨rfl, ⟨rfl, ⟨rfl, ⟨rfl, ⟨rfl, ⟨rfl, trivial⟩⟩⟩⟩⟩⟩ h
    · have h := h.2 c
      refine ex_step (pc' := 46) (st' := [.int 1, .int x3]) dX1_windOnce_45 rfl ?_
      refine ex_step (pc' := 50) dX1_windOnce_46 rfl ?_
      refine ex_step (pc' := 51) dX1_windOnce_50 rfl ?_
      refine ex_step (pc' := 52) (ls' := [some (.ref 413), some (.ref t1), some (.ref d2), some (.int (x3 + 1)), some (.int y2), some (.int x5), some (.int v1)]) dX1_windOnce_51 rfl ?_
      refine ex_step (pc' := 55) (ls' := [some (.ref 413), some (.ref t1), some (.ref d2), some (.int (x3 + 1)), some (.int y2), some (.int (x5 + 1)), some (.int v1)]) dX1_windOnce_52 rfl ?_
      refine ex_step (pc' := 8) dX1_windOnce_55 rfl ?_
      exact ex_less (ls' := [some (.ref 413), some (.ref t1), some (.ref d2), some (.int (x3 + 1)), some (.int y2), some (.int (x5 + 1)), none]) ⟨rfl, ⟨rfl, ⟨rfl, ⟨rfl, ⟨rfl, ⟨rfl, trivial⟩⟩⟩⟩⟩⟩ h
set_option maxHeartbeats 4000000 in
theorem BX1_greatest_0 {d : Nat} {Z : zZ} {I : zI} {J : zJ} {o : zO} {t u : Nat} {t1 : Nat} (x2 : Int32) (hL : zLY Z t u) (ht1 : zTx Z t1) (h : zE (d + 1) kX1_greatest 8 [some (.ref 413), some (.ref t1), some (.int x2), some (.int 0), some (.int (-1)), some (.int 0)] [] Z I J o) : zE (d + 1) kX1_greatest 0 [some (.ref 413), some (.ref t1), some (.int x2), none, none, none] [] Z I J o := by
  refine ex_step (pc' := 1) (st' := [.int 0]) dX1_greatest_0 rfl ?_
  refine ex_step (pc' := 2) (ls' := [some (.ref 413), some (.ref t1), some (.int x2), some (.int 0), none, none]) dX1_greatest_1 rfl ?_
  refine ex_step (pc' := 3) (st' := [.int (-1)]) dX1_greatest_2 rfl ?_
  refine ex_step (pc' := 5) (ls' := [some (.ref 413), some (.ref t1), some (.int x2), some (.int 0), some (.int (-1)), none]) dX1_greatest_3 rfl ?_
  refine ex_step (pc' := 6) (st' := [.int 0]) dX1_greatest_5 rfl ?_
  refine ex_step (pc' := 8) (ls' := [some (.ref 413), some (.ref t1), some (.int x2), some (.int 0), some (.int (-1)), some (.int 0)]) dX1_greatest_6 rfl ?_
  exact h
set_option maxHeartbeats 4000000 in
theorem BX1_greatest_8 {d : Nat} {Z : zZ} {I : zI} {J : zJ} {o : zO} {t u : Nat} {t1 : Nat} (x2 : Int32) (x3 : Int32) (x4 : Int32) (x5 : Int32) (hL : zLY Z t u) (ht1 : zTx Z t1) (h : (((I t1 2) ≤ x5 → o = (some (.int x3), Z, I, J)) ∧ (¬ (I t1 2) ≤ x5 → ((¬ ((x2 >>> (x5 &&& 31)) &&& 1) = 0 → zE (d + 1) kX1_greatest 8 [some (.ref 413), some (.ref t1), some (.int x2), some (.int x3), some (.int x4), some (.int (x5 + 1))] [] Z I J o) ∧ (((x2 >>> (x5 &&& 31)) &&& 1) = 0 → (((zat I 414 7 x5) ≤ x4 → zE (d + 1) kX1_greatest 8 [some (.ref 413), some (.ref t1), some (.int x2), some (.int x3), some (.int x4), some (.int (x5 + 1))] [] Z I J o) ∧ (¬ (zat I 414 7 x5) ≤ x4 → zE (d + 1) kX1_greatest 8 [some (.ref 413), some (.ref t1), some (.int x2), some (.int x5), some (.int (zat I 414 7 x5)), some (.int (x5 + 1))] [] Z I J o))))))) : zE (d + 1) kX1_greatest 8 [some (.ref 413), some (.ref t1), some (.int x2), some (.int x3), some (.int x4), some (.int x5)] [] Z I J o := by
  refine ex_step (pc' := 10) dX1_greatest_8 rfl ?_
  refine ex_step (pc' := 11) dX1_greatest_10 rfl ?_
  refine ex_geti dX1_greatest_11 wf_RX1_28 (zTx_o ht1) rfl ?_
  refine ex_icmp (pc' := 60) dX1_greatest_14 (by decide) (fun c => ?_) (fun c => ?_)
  · have h := h.1 c
    refine ex_step (pc' := 61) dX1_greatest_60 rfl ?_
    rw [h]; exact ex_ret (v := some (.int x3)) ⟨dX1_greatest_61, _, rfl, rfl⟩
  · have h := h.2 c
    refine ex_step (pc' := 18) dX1_greatest_17 rfl ?_
    refine ex_step (pc' := 20) dX1_greatest_18 rfl ?_
    refine ex_step (pc' := 21) dX1_greatest_20 rfl ?_
    refine ex_step (pc' := 22) (st' := [.int 1, .int (x2 >>> (x5 &&& 31))]) dX1_greatest_21 rfl ?_
    refine ex_step (pc' := 23) dX1_greatest_22 rfl ?_
    refine ex_if (pc' := 54) dX1_greatest_23 (by decide) (fun c => ?_) (fun c => ?_)
    · have h := h.1 c
      refine ex_step (pc' := 57) (ls' := [some (.ref 413), some (.ref t1), some (.int x2), some (.int x3), some (.int x4), some (.int (x5 + 1))]) dX1_greatest_54 rfl ?_
      refine ex_step (pc' := 8) dX1_greatest_57 rfl ?_
      exact h
    · have h := h.2 (Classical.not_not.mp c)
      refine ex_step (pc' := 27) dX1_greatest_26 rfl ?_
      refine ex_getr dX1_greatest_27 wf_RX1_9 (ly_a413 hL) rfl (ly_r413_2 hL) ?_
      refine ex_step (pc' := 32) dX1_greatest_30 rfl ?_
      refine ex_callS (as := [.ref 414, .int x5]) (st := []) dX1_greatest_32 zmX11_at zl_RX1_48 zsX11_at rfl (Nat.le_of_ble_eq_true rfl) (Nat.le_of_ble_eq_true rfl) (S_at' (by decide) (ly_a414 hL)) ?_
      refine ex_step (pc' := 37) dX1_greatest_35 rfl ?_
      refine ex_icmp (pc' := 54) dX1_greatest_37 (by decide) (fun c => ?_) (fun c => ?_)
      · have h := h.1 c
        refine ex_step (pc' := 57) (ls' := [some (.ref 413), some (.ref t1), some (.int x2), some (.int x3), some (.int x4), some (.int (x5 + 1))]) dX1_greatest_54 rfl ?_
        refine ex_step (pc' := 8) dX1_greatest_57 rfl ?_
        exact h
      · have h := h.2 c
        refine ex_step (pc' := 42) dX1_greatest_40 rfl ?_
        refine ex_step (pc' := 43) (ls' := [some (.ref 413), some (.ref t1), some (.int x2), some (.int x5), some (.int x4), some (.int x5)]) dX1_greatest_42 rfl ?_
        refine ex_step (pc' := 44) dX1_greatest_43 rfl ?_
        refine ex_getr dX1_greatest_44 wf_RX1_9 (ly_a413 hL) rfl (ly_r413_2 hL) ?_
        refine ex_step (pc' := 49) dX1_greatest_47 rfl ?_
        refine ex_callS (as := [.ref 414, .int x5]) (st := []) dX1_greatest_49 zmX11_at zl_RX1_48 zsX11_at rfl (Nat.le_of_ble_eq_true rfl) (Nat.le_of_ble_eq_true rfl) (S_at' (by decide) (ly_a414 hL)) ?_
        refine ex_step (pc' := 54) (ls' := [some (.ref 413), some (.ref t1), some (.int x2), some (.int x5), some (.int (zat I 414 7 x5)), some (.int x5)]) dX1_greatest_52 rfl ?_
        refine ex_step (pc' := 57) (ls' := [some (.ref 413), some (.ref t1), some (.int x2), some (.int x5), some (.int (zat I 414 7 x5)), some (.int (x5 + 1))]) dX1_greatest_54 rfl ?_
        refine ex_step (pc' := 8) dX1_greatest_57 rfl ?_
        exact h
set_option maxHeartbeats 4000000 in
theorem BX2_add_0 {d : Nat} {Z : zZ} {I : zI} {J : zJ} {o : zO} {l0 : Nat} (x1 : Int32) (x2 : Int32) (hl0 : zLw Z l0) (h : (∀ I1 : zI, I1 = zpt I (l0 + 1) 401 (I l0 0) x1 → (∀ I2 : zI, I2 = zpt I1 (l0 + 2) 401 (I1 l0 0) x2 → (∀ I3 : zI, I3 = zu I2 l0 0 ((I2 l0 0) + 1) → o = (none, Z, I3, J))))) : zE (d + 1) kX2_add 0 [some (.ref l0), some (.int x1), some (.int x2)] [] Z I J o := by
  refine ex_step (pc' := 1) dX2_add_0 rfl ?_
  refine ex_getr dX2_add_1 wf_RX2_9 (zLw_o hl0) rfl (zLw_r1 hl0) ?_
  refine ex_step (pc' := 5) dX2_add_4 rfl ?_
  refine ex_geti dX2_add_5 wf_RX2_24 (zLw_o hl0) rfl ?_
  refine ex_step (pc' := 9) dX2_add_8 rfl ?_
  obtain ⟨I1, eI1⟩ : ∃ q : zI, q = zpt I (l0 + 1) 401 (I l0 0) x1 := ⟨_, rfl⟩
  have h := h I1 eI1
  refine ex_callS (as := [.ref (l0 + 1), .int (I l0 0), .int x1]) (st := []) dX2_add_9 zmX11_put zl_RX2_28 zsX11_put rfl (Nat.le_of_ble_eq_true rfl) (Nat.le_of_ble_eq_true rfl) (eI1 ▸ (S_put' (by decide) (zLw_a1 hl0))) ?_
  refine ex_step (pc' := 13) dX2_add_12 rfl ?_
  refine ex_getr dX2_add_13 wf_RX2_15 (zLw_o hl0) rfl (zLw_r2 hl0) ?_
  refine ex_step (pc' := 17) dX2_add_16 rfl ?_
  refine ex_geti dX2_add_17 wf_RX2_24 (zLw_o hl0) rfl ?_
  refine ex_step (pc' := 21) dX2_add_20 rfl ?_
  obtain ⟨I2, eI2⟩ : ∃ q : zI, q = zpt I1 (l0 + 2) 401 (I1 l0 0) x2 := ⟨_, rfl⟩
  have h := h I2 eI2
  refine ex_callS (as := [.ref (l0 + 2), .int (I1 l0 0), .int x2]) (st := []) dX2_add_21 zmX11_put zl_RX2_28 zsX11_put rfl (Nat.le_of_ble_eq_true rfl) (Nat.le_of_ble_eq_true rfl) (eI2 ▸ (S_put' (by decide) (zLw_a2 hl0))) ?_
  refine ex_step (pc' := 25) dX2_add_24 rfl ?_
  refine ex_step (pc' := 26) dX2_add_25 rfl ?_
  refine ex_geti dX2_add_26 wf_RX2_24 (zLw_o hl0) rfl ?_
  refine ex_step (pc' := 30) (st' := [.int 1, .int (I2 l0 0), .ref l0]) dX2_add_29 rfl ?_
  refine ex_step (pc' := 31) dX2_add_30 rfl ?_
  refine ex_putiN dX2_add_31 (wp_RX2_24 _) (zLw_o hl0) rfl ⟨rfl, rfl⟩ (fun I3 eI3 => ?_)
  have h := h I3 eI3
  rw [h]; exact ex_ret (v := none) ⟨dX2_add_34, rfl⟩
set_option maxHeartbeats 4000000 in
theorem BX2_aim_0 {d : Nat} {Z : zZ} {I : zI} {J : zJ} {o : zO} {l0 : Nat} (x1 : Int32) (hl0 : zLw Z l0) (h : (∀ I1 : zI, I1 = zpt I (l0 + 2) 401 x1 (I l0 0) → o = (none, Z, I1, J))) : zE (d + 1) kX2_aim 0 [some (.ref l0), some (.int x1)] [] Z I J o := by
  refine ex_step (pc' := 1) dX2_aim_0 rfl ?_
  refine ex_getr dX2_aim_1 wf_RX2_15 (zLw_o hl0) rfl (zLw_r2 hl0) ?_
  refine ex_step (pc' := 5) dX2_aim_4 rfl ?_
  refine ex_step (pc' := 6) dX2_aim_5 rfl ?_
  refine ex_geti dX2_aim_6 wf_RX2_24 (zLw_o hl0) rfl ?_
  obtain ⟨I1, eI1⟩ : ∃ q : zI, q = zpt I (l0 + 2) 401 x1 (I l0 0) := ⟨_, rfl⟩
  have h := h I1 eI1
  refine ex_callS (as := [.ref (l0 + 2), .int x1, .int (I l0 0)]) (st := []) dX2_aim_9 zmX11_put zl_RX2_28 zsX11_put rfl (Nat.le_of_ble_eq_true rfl) (Nat.le_of_ble_eq_true rfl) (eI1 ▸ (S_put' (by decide) (zLw_a2 hl0))) ?_
  rw [h]; exact ex_ret (v := none) ⟨dX2_aim_12, rfl⟩
set_option maxHeartbeats 4000000 in
theorem BX2_value_0 {d : Nat} {Z : zZ} {I : zI} {J : zJ} {o : zO} {l0 : Nat} (x1 : Int32) (x2 : Int32) (x3 : Int32) (x4 : Int32) (x5 : Int32) (x6 : Int32) (x7 : Int32) (hl0 : zLw Z l0) (h : (∀ I1 : zI, I1 = zpt I (l0 + 3) 6 0 x2 → (∀ I2 : zI, I2 = zpt I1 (l0 + 3) 6 1 x3 → (∀ I3 : zI, I3 = zpt I2 (l0 + 3) 6 2 x4 → (∀ I4 : zI, I4 = zpt I3 (l0 + 3) 6 3 x5 → (∀ I5 : zI, I5 = zpt I4 (l0 + 3) 6 4 x6 → (∀ I6 : zI, I6 = zpt I5 (l0 + 3) 6 5 x7 → zE (d + 1) kX2_value 67 [some (.ref l0), none, none, none, none, none, none, none, some (.int x1), some (.int 0), some (.int 0), none, none, none, none] [] Z I6 J o))))))) : zE (d + 1) kX2_value 0 [some (.ref l0), some (.int x1), some (.int x2), some (.int x3), some (.int x4), some (.int x5), some (.int x6), some (.int x7), none, none, none, none, none, none, none] [] Z I J o := by
  refine ex_step (pc' := 1) dX2_value_0 rfl ?_
  refine ex_getr dX2_value_1 wf_RX2_18 (zLw_o hl0) rfl (zLw_r3 hl0) ?_
  refine ex_step (pc' := 5) (st' := [.int 0, .ref (l0 + 3)]) dX2_value_4 rfl ?_
  refine ex_step (pc' := 6) dX2_value_5 rfl ?_
  obtain ⟨I1, eI1⟩ : ∃ q : zI, q = zpt I (l0 + 3) 6 0 x2 := ⟨_, rfl⟩
  have h := h I1 eI1
  refine ex_callS (as := [.ref (l0 + 3), .int 0, .int x2]) (st := []) dX2_value_6 zmX11_put zl_RX2_28 zsX11_put rfl (Nat.le_of_ble_eq_true rfl) (Nat.le_of_ble_eq_true rfl) (eI1 ▸ (S_put' (by decide) (zLw_a3 hl0))) ?_
  refine ex_step (pc' := 10) dX2_value_9 rfl ?_
  refine ex_getr dX2_value_10 wf_RX2_18 (zLw_o hl0) rfl (zLw_r3 hl0) ?_
  refine ex_step (pc' := 14) (st' := [.int 1, .ref (l0 + 3)]) dX2_value_13 rfl ?_
  refine ex_step (pc' := 15) dX2_value_14 rfl ?_
  obtain ⟨I2, eI2⟩ : ∃ q : zI, q = zpt I1 (l0 + 3) 6 1 x3 := ⟨_, rfl⟩
  have h := h I2 eI2
  refine ex_callS (as := [.ref (l0 + 3), .int 1, .int x3]) (st := []) dX2_value_15 zmX11_put zl_RX2_28 zsX11_put rfl (Nat.le_of_ble_eq_true rfl) (Nat.le_of_ble_eq_true rfl) (eI2 ▸ (S_put' (by decide) (zLw_a3 hl0))) ?_
  refine ex_step (pc' := 19) dX2_value_18 rfl ?_
  refine ex_getr dX2_value_19 wf_RX2_18 (zLw_o hl0) rfl (zLw_r3 hl0) ?_
  refine ex_step (pc' := 23) (st' := [.int 2, .ref (l0 + 3)]) dX2_value_22 rfl ?_
  refine ex_step (pc' := 25) dX2_value_23 rfl ?_
  obtain ⟨I3, eI3⟩ : ∃ q : zI, q = zpt I2 (l0 + 3) 6 2 x4 := ⟨_, rfl⟩
  have h := h I3 eI3
  refine ex_callS (as := [.ref (l0 + 3), .int 2, .int x4]) (st := []) dX2_value_25 zmX11_put zl_RX2_28 zsX11_put rfl (Nat.le_of_ble_eq_true rfl) (Nat.le_of_ble_eq_true rfl) (eI3 ▸ (S_put' (by decide) (zLw_a3 hl0))) ?_
  refine ex_step (pc' := 29) dX2_value_28 rfl ?_
  refine ex_getr dX2_value_29 wf_RX2_18 (zLw_o hl0) rfl (zLw_r3 hl0) ?_
  refine ex_step (pc' := 33) (st' := [.int 3, .ref (l0 + 3)]) dX2_value_32 rfl ?_
  refine ex_step (pc' := 35) dX2_value_33 rfl ?_
  obtain ⟨I4, eI4⟩ : ∃ q : zI, q = zpt I3 (l0 + 3) 6 3 x5 := ⟨_, rfl⟩
  have h := h I4 eI4
  refine ex_callS (as := [.ref (l0 + 3), .int 3, .int x5]) (st := []) dX2_value_35 zmX11_put zl_RX2_28 zsX11_put rfl (Nat.le_of_ble_eq_true rfl) (Nat.le_of_ble_eq_true rfl) (eI4 ▸ (S_put' (by decide) (zLw_a3 hl0))) ?_
  refine ex_step (pc' := 39) dX2_value_38 rfl ?_
  refine ex_getr dX2_value_39 wf_RX2_18 (zLw_o hl0) rfl (zLw_r3 hl0) ?_
  refine ex_step (pc' := 43) (st' := [.int 4, .ref (l0 + 3)]) dX2_value_42 rfl ?_
  refine ex_step (pc' := 45) dX2_value_43 rfl ?_
  obtain ⟨I5, eI5⟩ : ∃ q : zI, q = zpt I4 (l0 + 3) 6 4 x6 := ⟨_, rfl⟩
  have h := h I5 eI5
  refine ex_callS (as := [.ref (l0 + 3), .int 4, .int x6]) (st := []) dX2_value_45 zmX11_put zl_RX2_28 zsX11_put rfl (Nat.le_of_ble_eq_true rfl) (Nat.le_of_ble_eq_true rfl) (eI5 ▸ (S_put' (by decide) (zLw_a3 hl0))) ?_
  refine ex_step (pc' := 49) dX2_value_48 rfl ?_
  refine ex_getr dX2_value_49 wf_RX2_18 (zLw_o hl0) rfl (zLw_r3 hl0) ?_
  refine ex_step (pc' := 53) (st' := [.int 5, .ref (l0 + 3)]) dX2_value_52 rfl ?_
  refine ex_step (pc' := 55) dX2_value_53 rfl ?_
  obtain ⟨I6, eI6⟩ : ∃ q : zI, q = zpt I5 (l0 + 3) 6 5 x7 := ⟨_, rfl⟩
  have h := h I6 eI6
  refine ex_callS (as := [.ref (l0 + 3), .int 5, .int x7]) (st := []) dX2_value_55 zmX11_put zl_RX2_28 zsX11_put rfl (Nat.le_of_ble_eq_true rfl) (Nat.le_of_ble_eq_true rfl) (eI6 ▸ (S_put' (by decide) (zLw_a3 hl0))) ?_
  refine ex_step (pc' := 59) dX2_value_58 rfl ?_
  refine ex_step (pc' := 61) (ls' := [some (.ref l0), some (.int x1), some (.int x2), some (.int x3), some (.int x4), some (.int x5), some (.int x6), some (.int x7), some (.int x1), none, none, none, none, none, none]) dX2_value_59 rfl ?_
  refine ex_step (pc' := 62) (st' := [.int 0]) dX2_value_61 rfl ?_
  refine ex_step (pc' := 64) (ls' := [some (.ref l0), some (.int x1), some (.int x2), some (.int x3), some (.int x4), some (.int x5), some (.int x6), some (.int x7), some (.int x1), some (.int 0), none, none, none, none, none]) dX2_value_62 rfl ?_
  refine ex_step (pc' := 65) (st' := [.int 0]) dX2_value_64 rfl ?_
  refine ex_step (pc' := 67) (ls' := [some (.ref l0), some (.int x1), some (.int x2), some (.int x3), some (.int x4), some (.int x5), some (.int x6), some (.int x7), some (.int x1), some (.int 0), some (.int 0), none, none, none, none]) dX2_value_65 rfl ?_
  exact ex_less (ls' := [some (.ref l0), none, none, none, none, none, none, none, some (.int x1), some (.int 0), some (.int 0), none, none, none, none]) ⟨rfl, ⟨rfl, ⟨rfl, ⟨rfl, trivial⟩⟩⟩⟩ h
set_option maxHeartbeats 4000000 in
theorem BX2_value_67 {d : Nat} {Z : zZ} {I : zI} {J : zJ} {o : zO} {l0 : Nat} (x8 : Int32) (x9 : Int32) (x10 : Int32) (hl0 : zLw Z l0) (h : ((400 < x10 → o = (some (.int 0), Z, I, J)) ∧ (¬ 400 < x10 → ((¬ (zat I (l0 + 1) 401 x8) = 0 → (((zat I (l0 + 1) 401 x8) = 1 → zE (d + 1) kX2_value 129 [some (.ref l0), none, none, none, none, none, none, none, some (.int (x8 + 1)), some (.int x9), some (.int x10), some (.int (zat I (l0 + 1) 401 x8)), some (.int (zat I (l0 + 2) 401 x8)), none, none] [] Z I J o) ∧ (¬ (zat I (l0 + 1) 401 x8) = 1 → ((¬ (zat I (l0 + 1) 401 x8) = 2 → (∀ y1 : Int32, y1 = (zat I (l0 + 4) 32 (x9 - 2)) → (∀ y2 : Int32, y2 = (zat I (l0 + 4) 32 (x9 - 1)) → ((¬ (zat I (l0 + 1) 401 x8) = 3 → ((¬ (zat I (l0 + 1) 401 x8) = 47 → zE (d + 1) kX2_value 232 [some (.ref l0), none, none, none, none, none, none, none, some (.int (x8 + 1)), some (.int (x9 + (-2))), some (.int x10), some (.int (zat I (l0 + 1) 401 x8)), none, some (.int y1), some (.int y2)] [] Z I J o) ∧ ((zat I (l0 + 1) 401 x8) = 47 → ((¬ y2 = 0 → zE (d + 1) kX2_value 232 [some (.ref l0), none, none, none, none, none, none, none, some (.int (x8 + 1)), some (.int (x9 + (-2))), some (.int x10), some (.int (zat I (l0 + 1) 401 x8)), none, some (.int y1), some (.int y2)] [] Z I J o) ∧ (y2 = 0 → o = (some (.int 0), Z, I, J)))))) ∧ ((zat I (l0 + 1) 401 x8) = 3 → ((y2 ≤ y1 → zE (d + 1) kX2_value 253 [some (.ref l0), none, none, none, none, none, none, none, some (.int (zat I (l0 + 2) 401 x8)), some (.int (x9 + (-2))), some (.int x10), none, none, none, none] [] Z I J o) ∧ (¬ y2 ≤ y1 → zE (d + 1) kX2_value 253 [some (.ref l0), none, none, none, none, none, none, none, some (.int (x8 + 1)), some (.int (x9 + (-2))), some (.int x10), none, none, none, none] [] Z I J o))))))) ∧ ((zat I (l0 + 1) 401 x8) = 2 → zE (d + 1) kX2_value 129 [some (.ref l0), none, none, none, none, none, none, none, some (.int (x8 + 1)), some (.int x9), some (.int x10), some (.int (zat I (l0 + 1) 401 x8)), some (.int (zat I (l0 + 2) 401 x8)), none, none] [] Z I J o))))) ∧ ((zat I (l0 + 1) 401 x8) = 0 → o = (some (.int (zat I (l0 + 4) 32 (x9 - 1))), Z, I, J)))))) : zE (d + 1) kX2_value 67 [some (.ref l0), none, none, none, none, none, none, none, some (.int x8), some (.int x9), some (.int x10), none, none, none, none] [] Z I J o := by
  refine ex_step (pc' := 69) dX2_value_67 rfl ?_
  refine ex_step (pc' := 72) (st' := [.int 400, .int x10]) dX2_value_69 rfl ?_
  refine ex_icmp (pc' := 259) dX2_value_72 (by decide) (fun c => ?_) (fun c => ?_)
  · have h := h.1 c
    refine ex_step (pc' := 260) (st' := [.int 0]) dX2_value_259 rfl ?_
    rw [h]; exact ex_ret (v := some (.int 0)) ⟨dX2_value_260, _, rfl, rfl⟩
  · have h := h.2 c
    refine ex_step (pc' := 76) dX2_value_75 rfl ?_
    refine ex_getr dX2_value_76 wf_RX2_9 (zLw_o hl0) rfl (zLw_r1 hl0) ?_
    refine ex_step (pc' := 81) dX2_value_79 rfl ?_
    refine ex_callS (as := [.ref (l0 + 1), .int x8]) (st := []) dX2_value_81 zmX11_at zl_RX2_32 zsX11_at rfl (Nat.le_of_ble_eq_true rfl) (Nat.le_of_ble_eq_true rfl) (S_at' (by decide) (zLw_a1 hl0)) ?_
    refine ex_step (pc' := 86) (ls' := [some (.ref l0), none, none, none, none, none, none, none, some (.int x8), some (.int x9), some (.int x10), some (.int (zat I (l0 + 1) 401 x8)), none, none, none]) dX2_value_84 rfl ?_
    refine ex_step (pc' := 87) dX2_value_86 rfl ?_
    refine ex_getr dX2_value_87 wf_RX2_15 (zLw_o hl0) rfl (zLw_r2 hl0) ?_
    refine ex_step (pc' := 92) dX2_value_90 rfl ?_
    refine ex_callS (as := [.ref (l0 + 2), .int x8]) (st := []) dX2_value_92 zmX11_at zl_RX2_32 zsX11_at rfl (Nat.le_of_ble_eq_true rfl) (Nat.le_of_ble_eq_true rfl) (S_at' (by decide) (zLw_a2 hl0)) ?_
    refine ex_step (pc' := 97) (ls' := [some (.ref l0), none, none, none, none, none, none, none, some (.int x8), some (.int x9), some (.int x10), some (.int (zat I (l0 + 1) 401 x8)), some (.int (zat I (l0 + 2) 401 x8)), none, none]) dX2_value_95 rfl ?_
    refine ex_step (pc' := 100) (ls' := [some (.ref l0), none, none, none, none, none, none, none, some (.int (x8 + 1)), some (.int x9), some (.int x10), some (.int (zat I (l0 + 1) 401 x8)), some (.int (zat I (l0 + 2) 401 x8)), none, none]) dX2_value_97 rfl ?_
    refine ex_step (pc' := 102) dX2_value_100 rfl ?_
    refine ex_if (pc' := 117) dX2_value_102 (by decide) (fun c => ?_) (fun c => ?_)
    · have h := h.1 c
      refine ex_step (pc' := 119) dX2_value_117 rfl ?_
      refine ex_step (pc' := 120) (st' := [.int 1, .int (zat I (l0 + 1) 401 x8)]) dX2_value_119 rfl ?_
      refine ex_icmp (pc' := 129) dX2_value_120 (by decide) (fun c => ?_) (fun c => ?_)
      · have h := h.1 c
        exact h
      · have h := h.2 c
        refine ex_step (pc' := 125) dX2_value_123 rfl ?_
        refine ex_step (pc' := 126) (st' := [.int 2, .int (zat I (l0 + 1) 401 x8)]) dX2_value_125 rfl ?_
        refine ex_icmp (pc' := 164) dX2_value_126 (by decide) (fun c => ?_) (fun c => ?_)
        · have h := h.1 c
          refine ex_step (pc' := 165) dX2_value_164 rfl ?_
          refine ex_getr dX2_value_165 wf_RX2_21 (zLw_o hl0) rfl (zLw_r4 hl0) ?_
          refine ex_step (pc' := 170) dX2_value_168 rfl ?_
          refine ex_step (pc' := 171) (st' := [.int 2, .int x9, .ref (l0 + 4)]) dX2_value_170 rfl ?_
          refine ex_step (pc' := 172) dX2_value_171 rfl ?_
          refine ex_callS (as := [.ref (l0 + 4), .int (x9 - 2)]) (st := []) dX2_value_172 zmX11_at zl_RX2_32 zsX11_at rfl (Nat.le_of_ble_eq_true rfl) (Nat.le_of_ble_eq_true rfl) (S_at' (by decide) (zLw_a4 hl0)) ?_
          refine ex_topi (fun y1 ey1 => ?_)
          have h := h y1 ey1
          refine ex_step (pc' := 177) (ls' := [some (.ref l0), none, none, none, none, none, none, none, some (.int (x8 + 1)), some (.int x9), some (.int x10), some (.int (zat I (l0 + 1) 401 x8)), some (.int (zat I (l0 + 2) 401 x8)), some (.int y1), none]) dX2_value_175 rfl ?_
          refine ex_step (pc' := 178) dX2_value_177 rfl ?_
          refine ex_getr dX2_value_178 wf_RX2_21 (zLw_o hl0) rfl (zLw_r4 hl0) ?_
          refine ex_step (pc' := 183) dX2_value_181 rfl ?_
          refine ex_step (pc' := 184) (st' := [.int 1, .int x9, .ref (l0 + 4)]) dX2_value_183 rfl ?_
          refine ex_step (pc' := 185) dX2_value_184 rfl ?_
          refine ex_callS (as := [.ref (l0 + 4), .int (x9 - 1)]) (st := []) dX2_value_185 zmX11_at zl_RX2_32 zsX11_at rfl (Nat.le_of_ble_eq_true rfl) (Nat.le_of_ble_eq_true rfl) (S_at' (by decide) (zLw_a4 hl0)) ?_
          refine ex_topi (fun y2 ey2 => ?_)
          have h := h y2 ey2
          refine ex_step (pc' := 190) (ls' := [some (.ref l0), none, none, none, none, none, none, none, some (.int (x8 + 1)), some (.int x9), some (.int x10), some (.int (zat I (l0 + 1) 401 x8)), some (.int (zat I (l0 + 2) 401 x8)), some (.int y1), some (.int y2)]) dX2_value_188 rfl ?_
          refine ex_step (pc' := 193) (ls' := [some (.ref l0), none, none, none, none, none, none, none, some (.int (x8 + 1)), some (.int (x9 + (-2))), some (.int x10), some (.int (zat I (l0 + 1) 401 x8)), some (.int (zat I (l0 + 2) 401 x8)), some (.int y1), some (.int y2)]) dX2_value_190 rfl ?_
          refine ex_step (pc' := 195) dX2_value_193 rfl ?_
          refine ex_step (pc' := 196) (st' := [.int 3, .int (zat I (l0 + 1) 401 x8)]) dX2_value_195 rfl ?_
          refine ex_icmp (pc' := 218) dX2_value_196 (by decide) (fun c => ?_) (fun c => ?_)
          · have h := h.1 c
            refine ex_step (pc' := 220) dX2_value_218 rfl ?_
            refine ex_step (pc' := 222) (st' := [.int 47, .int (zat I (l0 + 1) 401 x8)]) dX2_value_220 rfl ?_
            refine ex_icmp (pc' := 232) dX2_value_222 (by decide) (fun c => ?_) (fun c => ?_)
            · have h := h.1 c
              exact ex_less (ls' := [some (.ref l0), none, none, none, none, none, none, none, some (.int (x8 + 1)), some (.int (x9 + (-2))), some (.int x10), some (.int (zat I (l0 + 1) 401 x8)), none, some (.int y1), some (.int y2)]) ⟨rfl, ⟨rfl, ⟨rfl, ⟨rfl, ⟨rfl, ⟨rfl, ⟨rfl, trivial⟩⟩⟩⟩⟩⟩⟩ h
            · have h := h.2 (Classical.not_not.mp c)
              refine ex_step (pc' := 227) dX2_value_225 rfl ?_
              refine ex_if (pc' := 232) dX2_value_227 (by decide) (fun c => ?_) (fun c => ?_)
              · have h := h.1 c
                exact ex_less (ls' := [some (.ref l0), none, none, none, none, none, none, none, some (.int (x8 + 1)), some (.int (x9 + (-2))), some (.int x10), some (.int (zat I (l0 + 1) 401 x8)), none, some (.int y1), some (.int y2)]) ⟨rfl, ⟨rfl, ⟨rfl, ⟨rfl, ⟨rfl, ⟨rfl, ⟨rfl, trivial⟩⟩⟩⟩⟩⟩⟩ h
              · have h := h.2 (Classical.not_not.mp c)
                refine ex_step (pc' := 231) (st' := [.int 0]) dX2_value_230 rfl ?_
                rw [h]; exact ex_ret (v := some (.int 0)) ⟨dX2_value_231, _, rfl, rfl⟩
          · have h := h.2 (Classical.not_not.mp c)
            refine ex_step (pc' := 201) dX2_value_199 rfl ?_
            refine ex_step (pc' := 203) dX2_value_201 rfl ?_
            refine ex_icmp (pc' := 211) dX2_value_203 (by decide) (fun c => ?_) (fun c => ?_)
            · have h := h.1 c
              refine ex_step (pc' := 213) dX2_value_211 rfl ?_
              refine ex_step (pc' := 215) (ls' := [some (.ref l0), none, none, none, none, none, none, none, some (.int (zat I (l0 + 2) 401 x8)), some (.int (x9 + (-2))), some (.int x10), some (.int (zat I (l0 + 1) 401 x8)), some (.int (zat I (l0 + 2) 401 x8)), some (.int y1), some (.int y2)]) dX2_value_213 rfl ?_
              refine ex_step (pc' := 253) dX2_value_215 rfl ?_
              exact ex_less (ls' := [some (.ref l0), none, none, none, none, none, none, none, some (.int (zat I (l0 + 2) 401 x8)), some (.int (x9 + (-2))), some (.int x10), none, none, none, none]) ⟨rfl, ⟨rfl, ⟨rfl, ⟨rfl, trivial⟩⟩⟩⟩ h
            · have h := h.2 c
              refine ex_step (pc' := 208) dX2_value_206 rfl ?_
              refine ex_step (pc' := 213) dX2_value_208 rfl ?_
              refine ex_step (pc' := 215) (ls' := [some (.ref l0), none, none, none, none, none, none, none, some (.int (x8 + 1)), some (.int (x9 + (-2))), some (.int x10), some (.int (zat I (l0 + 1) 401 x8)), some (.int (zat I (l0 + 2) 401 x8)), some (.int y1), some (.int y2)]) dX2_value_213 rfl ?_
              refine ex_step (pc' := 253) dX2_value_215 rfl ?_
              exact ex_less (ls' := [some (.ref l0), none, none, none, none, none, none, none, some (.int (x8 + 1)), some (.int (x9 + (-2))), some (.int x10), none, none, none, none]) ⟨rfl, ⟨rfl, ⟨rfl, ⟨rfl, trivial⟩⟩⟩⟩ h
        · have h := h.2 (Classical.not_not.mp c)
          exact h
    · have h := h.2 (Classical.not_not.mp c)
      refine ex_step (pc' := 106) dX2_value_105 rfl ?_
      refine ex_getr dX2_value_106 wf_RX2_21 (zLw_o hl0) rfl (zLw_r4 hl0) ?_
      refine ex_step (pc' := 111) dX2_value_109 rfl ?_
      refine ex_step (pc' := 112) (st' := [.int 1, .int x9, .ref (l0 + 4)]) dX2_value_111 rfl ?_
      refine ex_step (pc' := 113) dX2_value_112 rfl ?_
      refine ex_callS (as := [.ref (l0 + 4), .int (x9 - 1)]) (st := []) dX2_value_113 zmX11_at zl_RX2_32 zsX11_at rfl (Nat.le_of_ble_eq_true rfl) (Nat.le_of_ble_eq_true rfl) (S_at' (by decide) (zLw_a4 hl0)) ?_
      rw [h]; exact ex_ret (v := some (.int (zat I (l0 + 4) 32 (x9 - 1)))) ⟨dX2_value_116, _, rfl, rfl⟩
set_option maxHeartbeats 4000000 in
theorem BX2_value_129 {d : Nat} {Z : zZ} {I : zI} {J : zJ} {o : zO} {l0 : Nat} (x8 : Int32) (x9 : Int32) (x10 : Int32) (x11 : Int32) (x12 : Int32) (hl0 : zLw Z l0) (h : ((¬ x11 = 1 → (∀ I1 : zI, I1 = zpt I (l0 + 4) 32 x9 (zat I (l0 + 3) 6 x12) → zE (d + 1) kX2_value 253 [some (.ref l0), none, none, none, none, none, none, none, some (.int x8), some (.int (x9 + 1)), some (.int x10), none, none, none, none] [] Z I1 J o)) ∧ (x11 = 1 → (∀ I2 : zI, I2 = zpt I (l0 + 4) 32 x9 x12 → zE (d + 1) kX2_value 253 [some (.ref l0), none, none, none, none, none, none, none, some (.int x8), some (.int (x9 + 1)), some (.int x10), none, none, none, none] [] Z I2 J o)))) : zE (d + 1) kX2_value 129 [some (.ref l0), none, none, none, none, none, none, none, some (.int x8), some (.int x9), some (.int x10), some (.int x11), some (.int x12), none, none] [] Z I J o := by
  refine ex_step (pc' := 130) dX2_value_129 rfl ?_
  refine ex_getr dX2_value_130 wf_RX2_21 (zLw_o hl0) rfl (zLw_r4 hl0) ?_
  refine ex_step (pc' := 135) dX2_value_133 rfl ?_
  refine ex_step (pc' := 137) dX2_value_135 rfl ?_
  refine ex_step (pc' := 138) (st' := [.int 1, .int x11, .int x9, .ref (l0 + 4)]) dX2_value_137 rfl ?_
  refine ex_icmp (pc' := 146) dX2_value_138 (by decide) (fun c => ?_) (fun c => ?_)
  · have h := h.1 c
    refine ex_step (pc' := 147) dX2_value_146 rfl ?_
    refine ex_getr dX2_value_147 wf_RX2_18 (zLw_o hl0) rfl (zLw_r3 hl0) ?_
    refine ex_step (pc' := 152) dX2_value_150 rfl ?_
    refine ex_callS (as := [.ref (l0 + 3), .int x12]) (st := [.int x9, .ref (l0 + 4)]) dX2_value_152 zmX11_at zl_RX2_32 zsX11_at rfl (Nat.le_of_ble_eq_true rfl) (Nat.le_of_ble_eq_true rfl) (S_at' (by decide) (zLw_a3 hl0)) ?_
    obtain ⟨I1, eI1⟩ : ∃ q : zI, q = zpt I (l0 + 4) 32 x9 (zat I (l0 + 3) 6 x12) := ⟨_, rfl⟩
    have h := h I1 eI1
    refine ex_callS (as := [.ref (l0 + 4), .int x9, .int (zat I (l0 + 3) 6 x12)]) (st := []) dX2_value_155 zmX11_put zl_RX2_28 zsX11_put rfl (Nat.le_of_ble_eq_true rfl) (Nat.le_of_ble_eq_true rfl) (eI1 ▸ (S_put' (by decide) (zLw_a4 hl0))) ?_
    refine ex_step (pc' := 161) (ls' := [some (.ref l0), none, none, none, none, none, none, none, some (.int x8), some (.int (x9 + 1)), some (.int x10), some (.int x11), some (.int x12), none, none]) dX2_value_158 rfl ?_
    refine ex_step (pc' := 253) dX2_value_161 rfl ?_
    exact ex_less (ls' := [some (.ref l0), none, none, none, none, none, none, none, some (.int x8), some (.int (x9 + 1)), some (.int x10), none, none, none, none]) ⟨rfl, ⟨rfl, ⟨rfl, ⟨rfl, trivial⟩⟩⟩⟩ h
  · have h := h.2 (Classical.not_not.mp c)
    refine ex_step (pc' := 143) dX2_value_141 rfl ?_
    refine ex_step (pc' := 155) dX2_value_143 rfl ?_
    obtain ⟨I2, eI2⟩ : ∃ q : zI, q = zpt I (l0 + 4) 32 x9 x12 := ⟨_, rfl⟩
    have h := h I2 eI2
    refine ex_callS (as := [.ref (l0 + 4), .int x9, .int x12]) (st := []) dX2_value_155 zmX11_put zl_RX2_28 zsX11_put rfl (Nat.le_of_ble_eq_true rfl) (Nat.le_of_ble_eq_true rfl) (eI2 ▸ (S_put' (by decide) (zLw_a4 hl0))) ?_
    refine ex_step (pc' := 161) (ls' := [some (.ref l0), none, none, none, none, none, none, none, some (.int x8), some (.int (x9 + 1)), some (.int x10), some (.int x11), some (.int x12), none, none]) dX2_value_158 rfl ?_
    refine ex_step (pc' := 253) dX2_value_161 rfl ?_
    exact ex_less (ls' := [some (.ref l0), none, none, none, none, none, none, none, some (.int x8), some (.int (x9 + 1)), some (.int x10), none, none, none, none]) ⟨rfl, ⟨rfl, ⟨rfl, ⟨rfl, trivial⟩⟩⟩⟩ h
set_option maxHeartbeats 4000000 in
theorem BX2_value_232 {d : Nat} {Z : zZ} {I : zI} {J : zJ} {o : zO} {l0 : Nat} (x8 : Int32) (x9 : Int32) (x10 : Int32) (x11 : Int32) (x13 : Int32) (x14 : Int32) (hl0 : zLw Z l0) (h : (∃ (v1 : Int32), zE d kX2_reckon 0 [some (.int x11), some (.int x13), some (.int x14)] [] Z I J (some (.int v1), Z, I, J) ∧ (∀ I2 : zI, I2 = zpt I (l0 + 4) 32 x9 v1 → zE (d + 1) kX2_value 253 [some (.ref l0), none, none, none, none, none, none, none, some (.int x8), some (.int (x9 + 1)), some (.int x10), none, none, none, none] [] Z I2 J o))) : zE (d + 1) kX2_value 232 [some (.ref l0), none, none, none, none, none, none, none, some (.int x8), some (.int x9), some (.int x10), some (.int x11), none, some (.int x13), some (.int x14)] [] Z I J o := by
  refine ex_step (pc' := 233) dX2_value_232 rfl ?_
  refine ex_getr dX2_value_233 wf_RX2_21 (zLw_o hl0) rfl (zLw_r4 hl0) ?_
  refine ex_step (pc' := 238) dX2_value_236 rfl ?_
  refine ex_step (pc' := 240) dX2_value_238 rfl ?_
  refine ex_step (pc' := 242) dX2_value_240 rfl ?_
  refine ex_step (pc' := 244) dX2_value_242 rfl ?_
  obtain ⟨v1, hc, h⟩ := h
  refine ex_callS (as := [.int x11, .int x13, .int x14]) (st := [.int x9, .ref (l0 + 4)]) dX2_value_244 zmX2_reckon zl_RX2_36 zsX2_reckon rfl (Nat.le_of_ble_eq_true rfl) (Nat.le_of_ble_eq_true rfl) hc ?_
  obtain ⟨I2, eI2⟩ : ∃ q : zI, q = zpt I (l0 + 4) 32 x9 v1 := ⟨_, rfl⟩
  have h := h I2 eI2
  refine ex_callS (as := [.ref (l0 + 4), .int x9, .int v1]) (st := []) dX2_value_247 zmX11_put zl_RX2_28 zsX11_put rfl (Nat.le_of_ble_eq_true rfl) (Nat.le_of_ble_eq_true rfl) (eI2 ▸ (S_put' (by decide) (zLw_a4 hl0))) ?_
  refine ex_step (pc' := 253) (ls' := [some (.ref l0), none, none, none, none, none, none, none, some (.int x8), some (.int (x9 + 1)), some (.int x10), some (.int x11), none, some (.int x13), some (.int x14)]) dX2_value_250 rfl ?_
  exact ex_less (ls' := [some (.ref l0), none, none, none, none, none, none, none, some (.int x8), some (.int (x9 + 1)), some (.int x10), none, none, none, none]) ⟨rfl, ⟨rfl, ⟨rfl, ⟨rfl, trivial⟩⟩⟩⟩ h
set_option maxHeartbeats 4000000 in
theorem BX2_value_253 {d : Nat} {Z : zZ} {I : zI} {J : zJ} {o : zO} {l0 : Nat} (x8 : Int32) (x9 : Int32) (x10 : Int32) (hl0 : zLw Z l0) (h : zE (d + 1) kX2_value 67 [some (.ref l0), none, none, none, none, none, none, none, some (.int x8), some (.int x9), some (.int (x10 + 1)), none, none, none, none] [] Z I J o) : zE (d + 1) kX2_value 253 [some (.ref l0), none, none, none, none, none, none, none, some (.int x8), some (.int x9), some (.int x10), none, none, none, none] [] Z I J o := by
  refine ex_step (pc' := 256) (ls' := [some (.ref l0), none, none, none, none, none, none, none, some (.int x8), some (.int x9), some (.int (x10 + 1)), none, none, none, none]) dX2_value_253 rfl ?_
  refine ex_step (pc' := 67) dX2_value_256 rfl ?_
  exact h
set_option maxHeartbeats 4000000 in
theorem BX3_empty_0 {d : Nat} {Z : zZ} {I : zI} {J : zJ} {o : zO} {t u : Nat}  (hL : zLY Z t u)  (h : (∀ I1 : zI, I1 = zu I 67 0 0 → (∃ (I2 : zI), zE d kJ7_fill_53178 0 [some (.ref 70), some (.int 0), none, none] [] Z I1 J (none, Z, I2, J) ∧ o = (none, Z, I2, J)))) : zE (d + 1) kX3_empty 0 [some (.ref 67)] [] Z I J o := by
  refine ex_step (pc' := 1) dX3_empty_0 rfl ?_
  refine ex_step (pc' := 2) (st' := [.int 0, .ref 67]) dX3_empty_1 rfl ?_
  refine ex_putiN dX3_empty_2 (wp_RX3_25 _) (ly_a67 hL) rfl ⟨rfl, rfl⟩ (fun I1 eI1 => ?_)
  have h := h I1 eI1
  refine ex_step (pc' := 6) dX3_empty_5 rfl ?_
  refine ex_getr dX3_empty_6 wf_RX3_20 (ly_a67 hL) rfl (ly_r67_3 hL) ?_
  refine ex_step (pc' := 10) (st' := [.int 0, .ref 70]) dX3_empty_9 rfl ?_
  obtain ⟨I2, hc, h⟩ := h
  refine ex_callS (as := [.ref 70, .int 0]) (st := []) dX3_empty_10 zmJ7_fill_53178 zl_RX3_29 zsJ7_fill_53178 rfl (Nat.le_of_ble_eq_true rfl) (Nat.le_of_ble_eq_true rfl) hc ?_
  rw [h]; exact ex_ret (v := none) ⟨dX3_empty_13, rfl⟩
set_option maxHeartbeats 4000000 in
theorem BX3_countHeld_0 {d : Nat} {Z : zZ} {I : zI} {J : zJ} {o : zO} {t u : Nat}  (hL : zLY Z t u)  (h : zE (d + 1) kX3_countHeld 4 [some (.ref 67), some (.int 0), some (.int 0)] [] Z I J o) : zE (d + 1) kX3_countHeld 0 [some (.ref 67), none, none] [] Z I J o := by
  refine ex_step (pc' := 1) (st' := [.int 0]) dX3_countHeld_0 rfl ?_
  refine ex_step (pc' := 2) (ls' := [some (.ref 67), some (.int 0), none]) dX3_countHeld_1 rfl ?_
  refine ex_step (pc' := 3) (st' := [.int 0]) dX3_countHeld_2 rfl ?_
  refine ex_step (pc' := 4) (ls' := [some (.ref 67), some (.int 0), some (.int 0)]) dX3_countHeld_3 rfl ?_
  exact h
set_option maxHeartbeats 4000000 in
theorem BX3_countHeld_4 {d : Nat} {Z : zZ} {I : zI} {J : zJ} {o : zO} {t u : Nat} (x1 : Int32) (x2 : Int32) (hL : zLY Z t u)  (h : ((3 ≤ x2 → o = (some (.int x1), Z, I, J)) ∧ (¬ 3 ≤ x2 → zE (d + 1) kX3_countHeld 4 [some (.ref 67), some (.int (x1 + (zat I 70 3 x2))), some (.int (x2 + 1))] [] Z I J o))) : zE (d + 1) kX3_countHeld 4 [some (.ref 67), some (.int x1), some (.int x2)] [] Z I J o := by
  refine ex_step (pc' := 5) dX3_countHeld_4 rfl ?_
  refine ex_step (pc' := 6) (st' := [.int 3, .int x2]) dX3_countHeld_5 rfl ?_
  refine ex_icmp (pc' := 26) dX3_countHeld_6 (by decide) (fun c => ?_) (fun c => ?_)
  · have h := h.1 c
    refine ex_step (pc' := 27) dX3_countHeld_26 rfl ?_
    rw [h]; exact ex_ret (v := some (.int x1)) ⟨dX3_countHeld_27, _, rfl, rfl⟩
  · have h := h.2 c
    refine ex_step (pc' := 10) dX3_countHeld_9 rfl ?_
    refine ex_step (pc' := 11) dX3_countHeld_10 rfl ?_
    refine ex_getr dX3_countHeld_11 wf_RX3_20 (ly_a67 hL) rfl (ly_r67_3 hL) ?_
    refine ex_step (pc' := 15) dX3_countHeld_14 rfl ?_
    refine ex_callS (as := [.ref 70, .int x2]) (st := [.int x1]) dX3_countHeld_15 zmX11_at zl_RX3_56 zsX11_at rfl (Nat.le_of_ble_eq_true rfl) (Nat.le_of_ble_eq_true rfl) (S_at' (by decide) (ly_a70 hL)) ?_
    refine ex_step (pc' := 19) dX3_countHeld_18 rfl ?_
    refine ex_step (pc' := 20) (ls' := [some (.ref 67), some (.int (x1 + (zat I 70 3 x2))), some (.int x2)]) dX3_countHeld_19 rfl ?_
    refine ex_step (pc' := 23) (ls' := [some (.ref 67), some (.int (x1 + (zat I 70 3 x2))), some (.int (x2 + 1))]) dX3_countHeld_20 rfl ?_
    refine ex_step (pc' := 4) dX3_countHeld_23 rfl ?_
    exact h
set_option maxHeartbeats 4000000 in
theorem BX4_choose_0 {d : Nat} {Z : zZ} {I : zI} {J : zJ} {o : zO} {t u : Nat} {t1 : Nat} (hL : zLY Z t u) (ht1 : zTx Z t1) (h : (∃ (I1 : zI), zE (d + 5) kJ7_fill_53178 0 [some (.ref 411), some (.int 0), none, none] [] Z I J (none, Z, I1, J) ∧ zE (d + 6) kX4_choose 10 [some (.ref 410), some (.ref t1), some (.ref 407), some (.int 0), none] [] Z I1 J o)) : zE (d + 6) kX4_choose 0 [some (.ref 410), some (.ref t1), some (.ref 407), none, none] [] Z I J o := by
  refine ex_step (pc' := 1) dX4_choose_0 rfl ?_
  refine ex_getr dX4_choose_1 wf_RX4_9 (ly_a410 hL) rfl (ly_r410_2 hL) ?_
  refine ex_step (pc' := 5) (st' := [.int 0, .ref 411]) dX4_choose_4 rfl ?_
  obtain ⟨I1, hc, h⟩ := h
  refine ex_callS (as := [.ref 411, .int 0]) (st := []) dX4_choose_5 zmJ7_fill_53178 zl_RX4_18 zsJ7_fill_53178 rfl (Nat.le_of_ble_eq_true rfl) (Nat.le_of_ble_eq_true rfl) hc ?_
  refine ex_step (pc' := 9) (st' := [.int 0]) dX4_choose_8 rfl ?_
  refine ex_step (pc' := 10) (ls' := [some (.ref 410), some (.ref t1), some (.ref 407), some (.int 0), none]) dX4_choose_9 rfl ?_
  exact h
set_option maxHeartbeats 4000000 in
theorem BX4_choose_10 {d : Nat} {Z : zZ} {I : zI} {J : zJ} {o : zO} {t u : Nat} {t1 : Nat} (x3 : Int32) (hL : zLY Z t u) (ht1 : zTx Z t1) (h : (((I t1 2) ≤ x3 → zE (d + 6) kX4_choose 54 [some (.ref 410), some (.ref t1), none, some (.int 0), none] [] Z I J o) ∧ (¬ (I t1 2) ≤ x3 → (∃ (I1 : zI), zE (d + 5) kX10_prepare 0 [some (.ref 407), some (.ref t1), some (.int x3), none, none, none, none, none, none] [] Z I J (none, Z, I1, J) ∧ (∃ (I2 : zI), zE (d + 5) kX10_findOrder 0 [some (.ref 407), some (.ref t1), some (.int x3), none, none, none, none, none] [] Z I1 J (none, Z, I2, J) ∧ (∃ (I3 : zI), zE (d + 5) kX4_walk 0 [some (.ref 410), some (.ref t1), some (.ref 407), some (.int x3), some (.int 0), none, none, none, none, none, none, none] [] Z I2 J (none, Z, I3, J) ∧ (∃ (I4 : zI), zE (d + 5) kX4_walk 0 [some (.ref 410), some (.ref t1), some (.ref 407), some (.int x3), some (.int 1), none, none, none, none, none, none, none] [] Z I3 J (none, Z, I4, J) ∧ zE (d + 6) kX4_choose 10 [some (.ref 410), some (.ref t1), some (.ref 407), some (.int (x3 + 1)), none] [] Z I4 J o))))))) : zE (d + 6) kX4_choose 10 [some (.ref 410), some (.ref t1), some (.ref 407), some (.int x3), none] [] Z I J o := by
  refine ex_step (pc' := 11) dX4_choose_10 rfl ?_
  refine ex_step (pc' := 12) dX4_choose_11 rfl ?_
  refine ex_geti dX4_choose_12 wf_RX4_24 (zTx_o ht1) rfl ?_
  refine ex_icmp (pc' := 52) dX4_choose_15 (by decide) (fun c => ?_) (fun c => ?_)
  · have h := h.1 c
    refine ex_step (pc' := 53) (st' := [.int 0]) dX4_choose_52 rfl ?_
    refine ex_step (pc' := 54) (ls' := [some (.ref 410), some (.ref t1), some (.ref 407), some (.int 0), none]) dX4_choose_53 rfl ?_
    exact ex_less (ls' := [some (.ref 410), some (.ref t1), none, some (.int 0), none]) ⟨rfl, ⟨rfl, ⟨rfl, trivial⟩⟩⟩ h
  · have h := h.2 c
    refine ex_step (pc' := 19) dX4_choose_18 rfl ?_
    refine ex_step (pc' := 20) dX4_choose_19 rfl ?_
    refine ex_step (pc' := 21) dX4_choose_20 rfl ?_
    obtain ⟨I1, hc, h⟩ := h
    refine ex_callV (as := [.ref t1, .int x3]) (st := []) (ci := 10) dX4_choose_21 zmX10_prepare zl_RX4_30 ziX10_prepare zvX10_prepare (by decide) (ly_a407 hL) rfl (Nat.le_of_ble_eq_true rfl) (Nat.le_of_ble_eq_true rfl) hc ?_
    refine ex_step (pc' := 25) dX4_choose_24 rfl ?_
    refine ex_step (pc' := 26) dX4_choose_25 rfl ?_
    refine ex_step (pc' := 27) dX4_choose_26 rfl ?_
    obtain ⟨I2, hc, h⟩ := h
    refine ex_callV (as := [.ref t1, .int x3]) (st := []) (ci := 10) dX4_choose_27 zmX10_findOrder zl_RX4_36 ziX10_findOrder zvX10_findOrder (by decide) (ly_a407 hL) rfl (Nat.le_of_ble_eq_true rfl) (Nat.le_of_ble_eq_true rfl) hc ?_
    refine ex_step (pc' := 31) dX4_choose_30 rfl ?_
    refine ex_step (pc' := 32) dX4_choose_31 rfl ?_
    refine ex_step (pc' := 33) dX4_choose_32 rfl ?_
    refine ex_step (pc' := 34) dX4_choose_33 rfl ?_
    refine ex_step (pc' := 35) (st' := [.int 0, .int x3, .ref 407, .ref t1, .ref 410]) dX4_choose_34 rfl ?_
    obtain ⟨I3, hc, h⟩ := h
    refine ex_callV (as := [.ref t1, .ref 407, .int x3, .int 0]) (st := []) (ci := 4) dX4_choose_35 zmX4_walk zl_RX4_39 ziX4_walk zvX4_walk (by decide) (ly_a410 hL) rfl (Nat.le_of_ble_eq_true rfl) (Nat.le_of_ble_eq_true rfl) hc ?_
    refine ex_step (pc' := 39) dX4_choose_38 rfl ?_
    refine ex_step (pc' := 40) dX4_choose_39 rfl ?_
    refine ex_step (pc' := 41) dX4_choose_40 rfl ?_
    refine ex_step (pc' := 42) dX4_choose_41 rfl ?_
    refine ex_step (pc' := 43) (st' := [.int 1, .int x3, .ref 407, .ref t1, .ref 410]) dX4_choose_42 rfl ?_
    obtain ⟨I4, hc, h⟩ := h
    refine ex_callV (as := [.ref t1, .ref 407, .int x3, .int 1]) (st := []) (ci := 4) dX4_choose_43 zmX4_walk zl_RX4_39 ziX4_walk zvX4_walk (by decide) (ly_a410 hL) rfl (Nat.le_of_ble_eq_true rfl) (Nat.le_of_ble_eq_true rfl) hc ?_
    refine ex_step (pc' := 49) (ls' := [some (.ref 410), some (.ref t1), some (.ref 407), some (.int (x3 + 1)), none]) dX4_choose_46 rfl ?_
    refine ex_step (pc' := 10) dX4_choose_49 rfl ?_
    exact h
set_option maxHeartbeats 4000000 in
theorem BX4_choose_54 {d : Nat} {Z : zZ} {I : zI} {J : zJ} {o : zO} {t u : Nat} {t1 : Nat} (x3 : Int32) (hL : zLY Z t u) (ht1 : zTx Z t1) (h : ((((2 : Int32) * (I t1 2)) ≤ x3 → (∀ I1 : zI, I1 = zu I 410 0 1000000 → zE (d + 6) kX4_choose 116 [some (.ref 410), some (.ref t1), none, some (.int 0), none] [] Z I1 J o)) ∧ (¬ ((2 : Int32) * (I t1 2)) ≤ x3 → zE (d + 6) kX4_choose 67 [some (.ref 410), some (.ref t1), none, some (.int x3), some (.int 0)] [] Z I J o))) : zE (d + 6) kX4_choose 54 [some (.ref 410), some (.ref t1), none, some (.int x3), none] [] Z I J o := by
  refine ex_step (pc' := 55) dX4_choose_54 rfl ?_
  refine ex_step (pc' := 56) (st' := [.int 2, .int x3]) dX4_choose_55 rfl ?_
  refine ex_step (pc' := 57) dX4_choose_56 rfl ?_
  refine ex_geti dX4_choose_57 wf_RX4_24 (zTx_o ht1) rfl ?_
  refine ex_step (pc' := 61) dX4_choose_60 rfl ?_
  refine ex_icmp (pc' := 108) dX4_choose_61 (by decide) (fun c => ?_) (fun c => ?_)
  · have h := h.1 c
    refine ex_step (pc' := 109) dX4_choose_108 rfl ?_
    refine ex_ldc dX4_choose_109 zk_RX4_51 ?_
    refine ex_putiN dX4_choose_111 (wp_RX4_52 _) (ly_a410 hL) rfl ⟨rfl, rfl⟩ (fun I1 eI1 => ?_)
    have h := h I1 eI1
    refine ex_step (pc' := 115) (st' := [.int 0]) dX4_choose_114 rfl ?_
    refine ex_step (pc' := 116) (ls' := [some (.ref 410), some (.ref t1), none, some (.int 0), none]) dX4_choose_115 rfl ?_
    exact h
  · have h := h.2 c
    refine ex_step (pc' := 65) (st' := [.int 0]) dX4_choose_64 rfl ?_
    refine ex_step (pc' := 67) (ls' := [some (.ref 410), some (.ref t1), none, some (.int x3), some (.int 0)]) dX4_choose_65 rfl ?_
    exact h
set_option maxHeartbeats 4000000 in
theorem BX4_choose_67 {d : Nat} {Z : zZ} {I : zI} {J : zJ} {o : zO} {t u : Nat} {t1 : Nat} (x3 : Int32) (x4 : Int32) (hL : zLY Z t u) (ht1 : zTx Z t1) (h : ((x3 ≤ x4 → zE (d + 6) kX4_choose 54 [some (.ref 410), some (.ref t1), none, some (.int (x3 + 1)), none] [] Z I J o) ∧ (¬ x3 ≤ x4 → (∃ (v1 : Int32), zE (d + 5) kX4_countMeetings 0 [some (.ref 410), some (.int x3), some (.int x4), none, none] [] Z I J (some (.int v1), Z, I, J) ∧ (∀ I2 : zI, I2 = zpt I 412 196 (((x3 * 2) * 7) + x4) v1 → zE (d + 6) kX4_choose 67 [some (.ref 410), some (.ref t1), none, some (.int x3), some (.int (x4 + 1))] [] Z I2 J o))))) : zE (d + 6) kX4_choose 67 [some (.ref 410), some (.ref t1), none, some (.int x3), some (.int x4)] [] Z I J o := by
  refine ex_step (pc' := 69) dX4_choose_67 rfl ?_
  refine ex_step (pc' := 70) dX4_choose_69 rfl ?_
  refine ex_icmp (pc' := 102) dX4_choose_70 (by decide) (fun c => ?_) (fun c => ?_)
  · have h := h.1 c
    refine ex_step (pc' := 105) (ls' := [some (.ref 410), some (.ref t1), none, some (.int (x3 + 1)), some (.int x4)]) dX4_choose_102 rfl ?_
    refine ex_step (pc' := 54) dX4_choose_105 rfl ?_
    exact ex_less (ls' := [some (.ref 410), some (.ref t1), none, some (.int (x3 + 1)), none]) ⟨rfl, ⟨rfl, ⟨rfl, trivial⟩⟩⟩ h
  · have h := h.2 c
    refine ex_step (pc' := 74) dX4_choose_73 rfl ?_
    refine ex_getr dX4_choose_74 wf_RX4_15 (ly_a410 hL) rfl (ly_r410_3 hL) ?_
    refine ex_step (pc' := 78) dX4_choose_77 rfl ?_
    refine ex_step (pc' := 79) (st' := [.int 2, .int x3, .ref 412]) dX4_choose_78 rfl ?_
    refine ex_step (pc' := 80) dX4_choose_79 rfl ?_
    refine ex_step (pc' := 82) (st' := [.int 7, .int (x3 * 2), .ref 412]) dX4_choose_80 rfl ?_
    refine ex_step (pc' := 83) dX4_choose_82 rfl ?_
    refine ex_step (pc' := 85) dX4_choose_83 rfl ?_
    refine ex_step (pc' := 86) dX4_choose_85 rfl ?_
    refine ex_step (pc' := 87) dX4_choose_86 rfl ?_
    refine ex_step (pc' := 88) dX4_choose_87 rfl ?_
    refine ex_step (pc' := 90) dX4_choose_88 rfl ?_
    obtain ⟨v1, hc, h⟩ := h
    refine ex_callV (as := [.int x3, .int x4]) (st := [.int (((x3 * 2) * 7) + x4), .ref 412]) (ci := 4) dX4_choose_90 zmX4_countMeetings zl_RX4_43 ziX4_countMeetings zvX4_countMeetings (by decide) (ly_a410 hL) rfl (Nat.le_of_ble_eq_true rfl) (Nat.le_of_ble_eq_true rfl) hc ?_
    obtain ⟨I2, eI2⟩ : ∃ q : zI, q = zpt I 412 196 (((x3 * 2) * 7) + x4) v1 := ⟨_, rfl⟩
    have h := h I2 eI2
    refine ex_callS (as := [.ref 412, .int (((x3 * 2) * 7) + x4), .int v1]) (st := []) dX4_choose_93 zmX11_put zl_RX4_47 zsX11_put rfl (Nat.le_of_ble_eq_true rfl) (Nat.le_of_ble_eq_true rfl) (eI2 ▸ (S_put' (by decide) (ly_a412 hL))) ?_
    refine ex_step (pc' := 99) (ls' := [some (.ref 410), some (.ref t1), none, some (.int x3), some (.int (x4 + 1))]) dX4_choose_96 rfl ?_
    refine ex_step (pc' := 67) dX4_choose_99 rfl ?_
    exact h
set_option maxHeartbeats 4000000 in
theorem BX4_choose_116 {d : Nat} {Z : zZ} {I : zI} {J : zJ} {o : zO} {t u : Nat} {t1 : Nat} (x3 : Int32) (hL : zLY Z t u) (ht1 : zTx Z t1) (h : ((128 ≤ x3 → o = (none, Z, I, J)) ∧ (¬ 128 ≤ x3 → ((((1 : Int32) <<< ((I t1 2) &&& 31)) ≤ x3 → o = (none, Z, I, J)) ∧ (¬ ((1 : Int32) <<< ((I t1 2) &&& 31)) ≤ x3 → (∃ (v1 : Int32), zE (d + 5) kX4_countAll 0 [some (.ref 410), some (.int (I t1 2)), some (.int x3), none, none, none, none, none] [] Z I J (some (.int v1), Z, I, J) ∧ (((I 410 0) ≤ v1 → zE (d + 6) kX4_choose 116 [some (.ref 410), some (.ref t1), none, some (.int (x3 + 1)), none] [] Z I J o) ∧ (¬ (I 410 0) ≤ v1 → (∀ I2 : zI, I2 = zu I 410 0 v1 → (∀ I3 : zI, I3 = zu I2 410 1 x3 → zE (d + 6) kX4_choose 116 [some (.ref 410), some (.ref t1), none, some (.int (x3 + 1)), none] [] Z I3 J o)))))))))) : zE (d + 6) kX4_choose 116 [some (.ref 410), some (.ref t1), none, some (.int x3), none] [] Z I J o := by
  refine ex_step (pc' := 117) dX4_choose_116 rfl ?_
  refine ex_step (pc' := 120) (st' := [.int 128, .int x3]) dX4_choose_117 rfl ?_
  refine ex_icmp (pc' := 170) dX4_choose_120 (by decide) (fun c => ?_) (fun c => ?_)
  · have h := h.1 c
    rw [h]; exact ex_ret (v := none) ⟨dX4_choose_170, rfl⟩
  · have h := h.2 c
    refine ex_step (pc' := 124) dX4_choose_123 rfl ?_
    refine ex_step (pc' := 125) (st' := [.int 1, .int x3]) dX4_choose_124 rfl ?_
    refine ex_step (pc' := 126) dX4_choose_125 rfl ?_
    refine ex_geti dX4_choose_126 wf_RX4_24 (zTx_o ht1) rfl ?_
    refine ex_step (pc' := 130) dX4_choose_129 rfl ?_
    refine ex_icmp (pc' := 170) dX4_choose_130 (by decide) (fun c => ?_) (fun c => ?_)
    · have h := h.1 c
      rw [h]; exact ex_ret (v := none) ⟨dX4_choose_170, rfl⟩
    · have h := h.2 c
      refine ex_step (pc' := 134) dX4_choose_133 rfl ?_
      refine ex_step (pc' := 135) dX4_choose_134 rfl ?_
      refine ex_geti dX4_choose_135 wf_RX4_24 (zTx_o ht1) rfl ?_
      refine ex_step (pc' := 139) dX4_choose_138 rfl ?_
      obtain ⟨v1, hc, h⟩ := h
      refine ex_callV (as := [.int (I t1 2), .int x3]) (st := []) (ci := 4) dX4_choose_139 zmX4_countAll zl_RX4_55 ziX4_countAll zvX4_countAll (by decide) (ly_a410 hL) rfl (Nat.le_of_ble_eq_true rfl) (Nat.le_of_ble_eq_true rfl) hc ?_
      refine ex_step (pc' := 144) (ls' := [some (.ref 410), some (.ref t1), none, some (.int x3), some (.int v1)]) dX4_choose_142 rfl ?_
      refine ex_step (pc' := 146) dX4_choose_144 rfl ?_
      refine ex_step (pc' := 147) dX4_choose_146 rfl ?_
      refine ex_geti dX4_choose_147 wf_RX4_52 (ly_a410 hL) rfl ?_
      refine ex_icmp (pc' := 164) dX4_choose_150 (by decide) (fun c => ?_) (fun c => ?_)
      · have h := h.1 c
        refine ex_step (pc' := 167) (ls' := [some (.ref 410), some (.ref t1), none, some (.int (x3 + 1)), some (.int v1)]) dX4_choose_164 rfl ?_
        refine ex_step (pc' := 116) dX4_choose_167 rfl ?_
        exact ex_less (ls' := [some (.ref 410), some (.ref t1), none, some (.int (x3 + 1)), none]) ⟨rfl, ⟨rfl, ⟨rfl, trivial⟩⟩⟩ h
      · have h := h.2 c
        refine ex_step (pc' := 154) dX4_choose_153 rfl ?_
        refine ex_step (pc' := 156) dX4_choose_154 rfl ?_
        refine ex_putiN dX4_choose_156 (wp_RX4_52 _) (ly_a410 hL) rfl ⟨rfl, rfl⟩ (fun I2 eI2 => ?_)
        have h := h I2 eI2
        refine ex_step (pc' := 160) dX4_choose_159 rfl ?_
        refine ex_step (pc' := 161) dX4_choose_160 rfl ?_
        refine ex_putiN dX4_choose_161 (wp_RX4_58 _) (ly_a410 hL) rfl ⟨rfl, rfl⟩ (fun I3 eI3 => ?_)
        have h := h I3 eI3
        refine ex_step (pc' := 167) (ls' := [some (.ref 410), some (.ref t1), none, some (.int (x3 + 1)), some (.int v1)]) dX4_choose_164 rfl ?_
        refine ex_step (pc' := 116) dX4_choose_167 rfl ?_
        exact ex_less (ls' := [some (.ref 410), some (.ref t1), none, some (.int (x3 + 1)), none]) ⟨rfl, ⟨rfl, ⟨rfl, trivial⟩⟩⟩ h
set_option maxHeartbeats 4000000 in
theorem BX4_walk_0 {d : Nat} {Z : zZ} {I : zI} {J : zJ} {o : zO} {t u : Nat} {t1 : Nat} (x3 : Int32) (x4 : Int32) (hL : zLY Z t u) (ht1 : zTx Z t1) (h : (∀ y1 : Int32, y1 = ((((2 : Int32) * x3) + x4) * 288) → zE (d + 2) kX4_walk 35 [some (.ref 410), some (.ref t1), some (.ref 407), some (.int x3), some (.int x4), some (.int (zat I (t1 + 6) 7 x3)), some (.int (zat I (t1 + 7) 7 x3)), some (.int y1), some (.int 0), none, none, none] [] Z I J o)) : zE (d + 2) kX4_walk 0 [some (.ref 410), some (.ref t1), some (.ref 407), some (.int x3), some (.int x4), none, none, none, none, none, none, none] [] Z I J o := by
  refine ex_step (pc' := 1) dX4_walk_0 rfl ?_
  refine ex_getr dX4_walk_1 wf_RX4_61 (zTx_o ht1) rfl (zTx_r7 ht1) ?_
  refine ex_step (pc' := 5) dX4_walk_4 rfl ?_
  refine ex_callS (as := [.ref (t1 + 6), .int x3]) (st := []) dX4_walk_5 zmX11_at zl_RX4_64 zsX11_at rfl (Nat.le_of_ble_eq_true rfl) (Nat.le_of_ble_eq_true rfl) (S_at' (by decide) (zTx_a6 ht1)) ?_
  refine ex_step (pc' := 10) (ls' := [some (.ref 410), some (.ref t1), some (.ref 407), some (.int x3), some (.int x4), some (.int (zat I (t1 + 6) 7 x3)), none, none, none, none, none, none]) dX4_walk_8 rfl ?_
  refine ex_step (pc' := 11) dX4_walk_10 rfl ?_
  refine ex_getr dX4_walk_11 wf_RX4_68 (zTx_o ht1) rfl (zTx_r8 ht1) ?_
  refine ex_step (pc' := 15) dX4_walk_14 rfl ?_
  refine ex_callS (as := [.ref (t1 + 7), .int x3]) (st := []) dX4_walk_15 zmX11_at zl_RX4_64 zsX11_at rfl (Nat.le_of_ble_eq_true rfl) (Nat.le_of_ble_eq_true rfl) (S_at' (by decide) (zTx_a7 ht1)) ?_
  refine ex_step (pc' := 20) (ls' := [some (.ref 410), some (.ref t1), some (.ref 407), some (.int x3), some (.int x4), some (.int (zat I (t1 + 6) 7 x3)), some (.int (zat I (t1 + 7) 7 x3)), none, none, none, none, none]) dX4_walk_18 rfl ?_
  refine ex_step (pc' := 21) (st' := [.int 2]) dX4_walk_20 rfl ?_
  refine ex_step (pc' := 22) dX4_walk_21 rfl ?_
  refine ex_step (pc' := 23) dX4_walk_22 rfl ?_
  refine ex_step (pc' := 25) dX4_walk_23 rfl ?_
  refine ex_step (pc' := 26) dX4_walk_25 rfl ?_
  refine ex_step (pc' := 29) (st' := [.int 288, .int (((2 : Int32) * x3) + x4)]) dX4_walk_26 rfl ?_
  refine ex_step (pc' := 30) dX4_walk_29 rfl ?_
  refine ex_topi (fun y1 ey1 => ?_)
  have h := h y1 ey1
  refine ex_step (pc' := 32) (ls' := [some (.ref 410), some (.ref t1), some (.ref 407), some (.int x3), some (.int x4), some (.int (zat I (t1 + 6) 7 x3)), some (.int (zat I (t1 + 7) 7 x3)), some (.int y1), none, none, none, none]) dX4_walk_30 rfl ?_
  refine ex_step (pc' := 33) (st' := [.int 0]) dX4_walk_32 rfl ?_
  refine ex_step (pc' := 35) (ls' := [some (.ref 410), some (.ref t1), some (.ref 407), some (.int x3), some (.int x4), some (.int (zat I (t1 + 6) 7 x3)), some (.int (zat I (t1 + 7) 7 x3)), some (.int y1), some (.int 0), none, none, none]) dX4_walk_33 rfl ?_
  exact h
set_option maxHeartbeats 4000000 in
theorem BX4_walk_35 {d : Nat} {Z : zZ} {I : zI} {J : zJ} {o : zO} {t u : Nat} {t1 : Nat} (x3 : Int32) (x4 : Int32) (x5 : Int32) (x6 : Int32) (x7 : Int32) (x8 : Int32) (hL : zLY Z t u) (ht1 : zTx Z t1) (h : (((zat I (t1 + 11) 7 x3) ≤ x8 → o = (none, Z, I, J)) ∧ (¬ (zat I (t1 + 11) 7 x3) ≤ x8 → (∀ y1 : Int32, y1 = ((x3 * 6) + (zat I 408 6 x8)) → ((¬ x4 = 0 → (∃ (I2 : zI), zE (d + 1) kX4_layAlongX 0 [some (.ref 410), some (.int x7), some (.int (zat I (t1 + 13) 42 y1)), some (.int (if (zat I (t1 + 12) 42 y1) < x5 then (zat I (t1 + 12) 42 y1) else x5)), some (.int (if x5 < (zat I (t1 + 12) 42 y1) then (zat I (t1 + 12) 42 y1) else x5)), none, none] [] Z I J (none, Z, I2, J) ∧ ((¬ x4 = 0 → (∃ (I3 : zI), zE (d + 1) kX4_layAlongY 0 [some (.ref 410), some (.int x7), some (.int x5), some (.int (if (zat I (t1 + 13) 42 y1) < x6 then (zat I (t1 + 13) 42 y1) else x6)), some (.int (if x6 < (zat I (t1 + 13) 42 y1) then (zat I (t1 + 13) 42 y1) else x6)), none, none] [] Z I2 J (none, Z, I3, J) ∧ zE (d + 2) kX4_walk 35 [some (.ref 410), some (.ref t1), some (.ref 407), some (.int x3), some (.int x4), some (.int (zat I (t1 + 12) 42 y1)), some (.int (zat I (t1 + 13) 42 y1)), some (.int x7), some (.int (x8 + 1)), none, none, none] [] Z I3 J o)) ∧ (x4 = 0 → (∃ (I4 : zI), zE (d + 1) kX4_layAlongY 0 [some (.ref 410), some (.int x7), some (.int (zat I (t1 + 12) 42 y1)), some (.int (if (zat I (t1 + 13) 42 y1) < x6 then (zat I (t1 + 13) 42 y1) else x6)), some (.int (if x6 < (zat I (t1 + 13) 42 y1) then (zat I (t1 + 13) 42 y1) else x6)), none, none] [] Z I2 J (none, Z, I4, J) ∧ zE (d + 2) kX4_walk 35 [some (.ref 410), some (.ref t1), some (.ref 407), some (.int x3), some (.int x4), some (.int (zat I (t1 + 12) 42 y1)), some (.int (zat I (t1 + 13) 42 y1)), some (.int x7), some (.int (x8 + 1)), none, none, none] [] Z I4 J o))))) ∧ (x4 = 0 → (∃ (I5 : zI), zE (d + 1) kX4_layAlongX 0 [some (.ref 410), some (.int x7), some (.int x6), some (.int (if (zat I (t1 + 12) 42 y1) < x5 then (zat I (t1 + 12) 42 y1) else x5)), some (.int (if x5 < (zat I (t1 + 12) 42 y1) then (zat I (t1 + 12) 42 y1) else x5)), none, none] [] Z I J (none, Z, I5, J) ∧ ((¬ x4 = 0 → (∃ (I6 : zI), zE (d + 1) kX4_layAlongY 0 [some (.ref 410), some (.int x7), some (.int x5), some (.int (if (zat I (t1 + 13) 42 y1) < x6 then (zat I (t1 + 13) 42 y1) else x6)), some (.int (if x6 < (zat I (t1 + 13) 42 y1) then (zat I (t1 + 13) 42 y1) else x6)), none, none] [] Z I5 J (none, Z, I6, J) ∧ zE (d + 2) kX4_walk 35 [some (.ref 410), some (.ref t1), some (.ref 407), some (.int x3), some (.int x4), some (.int (zat I (t1 + 12) 42 y1)), some (.int (zat I (t1 + 13) 42 y1)), some (.int x7), some (.int (x8 + 1)), none, none, none] [] Z I6 J o)) ∧ (x4 = 0 → (∃ (I7 : zI), zE (d + 1) kX4_layAlongY 0 [some (.ref 410), some (.int x7), some (.int (zat I (t1 + 12) 42 y1)), some (.int (if (zat I (t1 + 13) 42 y1) < x6 then (zat I (t1 + 13) 42 y1) else x6)), some (.int (if x6 < (zat I (t1 + 13) 42 y1) then (zat I (t1 + 13) 42 y1) else x6)), none, none] [] Z I5 J (none, Z, I7, J) ∧ zE (d + 2) kX4_walk 35 [some (.ref 410), some (.ref t1), some (.ref 407), some (.int x3), some (.int x4), some (.int (zat I (t1 + 12) 42 y1)), some (.int (zat I (t1 + 13) 42 y1)), some (.int x7), some (.int (x8 + 1)), none, none, none] [] Z I7 J o)))))))))) : zE (d + 2) kX4_walk 35 [some (.ref 410), some (.ref t1), some (.ref 407), some (.int x3), some (.int x4), some (.int x5), some (.int x6), some (.int x7), some (.int x8), none, none, none] [] Z I J o := by
  refine ex_step (pc' := 37) dX4_walk_35 rfl ?_
  refine ex_step (pc' := 38) dX4_walk_37 rfl ?_
  refine ex_getr dX4_walk_38 wf_RX4_71 (zTx_o ht1) rfl (zTx_r12 ht1) ?_
  refine ex_step (pc' := 42) dX4_walk_41 rfl ?_
  refine ex_callS (as := [.ref (t1 + 11), .int x3]) (st := [.int x8]) dX4_walk_42 zmX11_at zl_RX4_64 zsX11_at rfl (Nat.le_of_ble_eq_true rfl) (Nat.le_of_ble_eq_true rfl) (S_at' (by decide) (zTx_a11 ht1)) ?_
  refine ex_icmp (pc' := 164) dX4_walk_45 (by decide) (fun c => ?_) (fun c => ?_)
  · have h := h.1 c
    rw [h]; exact ex_ret (v := none) ⟨dX4_walk_164, rfl⟩
  · have h := h.2 c
    refine ex_step (pc' := 49) dX4_walk_48 rfl ?_
    refine ex_step (pc' := 51) (st' := [.int 6, .int x3]) dX4_walk_49 rfl ?_
    refine ex_step (pc' := 52) dX4_walk_51 rfl ?_
    refine ex_step (pc' := 53) dX4_walk_52 rfl ?_
    refine ex_getr dX4_walk_53 wf_RX4_74 (ly_a407 hL) rfl (ly_r407_0 hL) ?_
    refine ex_step (pc' := 58) dX4_walk_56 rfl ?_
    refine ex_callS (as := [.ref 408, .int x8]) (st := [.int (x3 * 6)]) dX4_walk_58 zmX11_at zl_RX4_64 zsX11_at rfl (Nat.le_of_ble_eq_true rfl) (Nat.le_of_ble_eq_true rfl) (S_at' (by decide) (ly_a408 hL)) ?_
    refine ex_step (pc' := 62) dX4_walk_61 rfl ?_
    refine ex_topi (fun y1 ey1 => ?_)
    have h := h y1 ey1
    refine ex_step (pc' := 64) (ls' := [some (.ref 410), some (.ref t1), some (.ref 407), some (.int x3), some (.int x4), some (.int x5), some (.int x6), some (.int x7), some (.int x8), some (.int y1), none, none]) dX4_walk_62 rfl ?_
    refine ex_step (pc' := 65) dX4_walk_64 rfl ?_
    refine ex_getr dX4_walk_65 wf_RX4_77 (zTx_o ht1) rfl (zTx_r13 ht1) ?_
    refine ex_step (pc' := 70) dX4_walk_68 rfl ?_
    refine ex_callS (as := [.ref (t1 + 12), .int y1]) (st := []) dX4_walk_70 zmX11_at zl_RX4_64 zsX11_at rfl (Nat.le_of_ble_eq_true rfl) (Nat.le_of_ble_eq_true rfl) (S_at' (by decide) (zTx_a12 ht1)) ?_
    refine ex_step (pc' := 75) (ls' := [some (.ref 410), some (.ref t1), some (.ref 407), some (.int x3), some (.int x4), some (.int x5), some (.int x6), some (.int x7), some (.int x8), some (.int y1), some (.int (zat I (t1 + 12) 42 y1)), none]) dX4_walk_73 rfl ?_
    refine ex_step (pc' := 76) dX4_walk_75 rfl ?_
    refine ex_getr dX4_walk_76 wf_RX4_80 (zTx_o ht1) rfl (zTx_r14 ht1) ?_
    refine ex_step (pc' := 81) dX4_walk_79 rfl ?_
    refine ex_callS (as := [.ref (t1 + 13), .int y1]) (st := []) dX4_walk_81 zmX11_at zl_RX4_64 zsX11_at rfl (Nat.le_of_ble_eq_true rfl) (Nat.le_of_ble_eq_true rfl) (S_at' (by decide) (zTx_a13 ht1)) ?_
    refine ex_step (pc' := 86) (ls' := [some (.ref 410), some (.ref t1), some (.ref 407), some (.int x3), some (.int x4), some (.int x5), some (.int x6), some (.int x7), some (.int x8), some (.int y1), some (.int (zat I (t1 + 12) 42 y1)), some (.int (zat I (t1 + 13) 42 y1))]) dX4_walk_84 rfl ?_
    refine ex_step (pc' := 87) dX4_walk_86 rfl ?_
    refine ex_step (pc' := 89) dX4_walk_87 rfl ?_
    refine ex_step (pc' := 91) dX4_walk_89 rfl ?_
    refine ex_if (pc' := 99) dX4_walk_91 (by decide) (fun c => ?_) (fun c => ?_)
    · have h := h.1 c
      refine ex_step (pc' := 101) dX4_walk_99 rfl ?_
      refine ex_step (pc' := 103) dX4_walk_101 rfl ?_
      refine ex_step (pc' := 105) dX4_walk_103 rfl ?_
      refine ex_min (by omega) dX4_walk_105 zl_RX4_83 (Nat.le_of_ble_eq_true rfl) ?_
      refine ex_step (pc' := 110) dX4_walk_108 rfl ?_
      refine ex_step (pc' := 112) dX4_walk_110 rfl ?_
      refine ex_max (by omega) dX4_walk_112 zl_RX4_88 (Nat.le_of_ble_eq_true rfl) ?_
      obtain ⟨I2, hc, h⟩ := h
      refine ex_callV (as := [.int x7, .int (zat I (t1 + 13) 42 y1), .int (if (zat I (t1 + 12) 42 y1) < x5 then (zat I (t1 + 12) 42 y1) else x5), .int (if x5 < (zat I (t1 + 12) 42 y1) then (zat I (t1 + 12) 42 y1) else x5)]) (st := []) (ci := 4) dX4_walk_115 zmX4_layAlongX zl_RX4_91 ziX4_layAlongX zvX4_layAlongX (by decide) (ly_a410 hL) rfl (Nat.le_of_ble_eq_true rfl) (Nat.le_of_ble_eq_true rfl) hc ?_
      refine ex_step (pc' := 119) dX4_walk_118 rfl ?_
      refine ex_step (pc' := 121) dX4_walk_119 rfl ?_
      refine ex_step (pc' := 123) dX4_walk_121 rfl ?_
      refine ex_if (pc' := 131) dX4_walk_123 (by decide) (fun c => ?_) (fun c => ?_)
      · have h := h.1 c
        refine ex_step (pc' := 133) dX4_walk_131 rfl ?_
        refine ex_step (pc' := 135) dX4_walk_133 rfl ?_
        refine ex_step (pc' := 137) dX4_walk_135 rfl ?_
        refine ex_min (by omega) dX4_walk_137 zl_RX4_83 (Nat.le_of_ble_eq_true rfl) ?_
        refine ex_step (pc' := 142) dX4_walk_140 rfl ?_
        refine ex_step (pc' := 144) dX4_walk_142 rfl ?_
        refine ex_max (by omega) dX4_walk_144 zl_RX4_88 (Nat.le_of_ble_eq_true rfl) ?_
        obtain ⟨I3, hc, h⟩ := h
        refine ex_callV (as := [.int x7, .int x5, .int (if (zat I (t1 + 13) 42 y1) < x6 then (zat I (t1 + 13) 42 y1) else x6), .int (if x6 < (zat I (t1 + 13) 42 y1) then (zat I (t1 + 13) 42 y1) else x6)]) (st := []) (ci := 4) dX4_walk_147 zmX4_layAlongY zl_RX4_95 ziX4_layAlongY zvX4_layAlongY (by decide) (ly_a410 hL) rfl (Nat.le_of_ble_eq_true rfl) (Nat.le_of_ble_eq_true rfl) hc ?_
        refine ex_step (pc' := 152) dX4_walk_150 rfl ?_
        refine ex_step (pc' := 154) (ls' := [some (.ref 410), some (.ref t1), some (.ref 407), some (.int x3), some (.int x4), some (.int (zat I (t1 + 12) 42 y1)), some (.int x6), some (.int x7), some (.int x8), some (.int y1), some (.int (zat I (t1 + 12) 42 y1)), some (.int (zat I (t1 + 13) 42 y1))]) dX4_walk_152 rfl ?_
        refine ex_step (pc' := 156) dX4_walk_154 rfl ?_
        refine ex_step (pc' := 158) (ls' := [some (.ref 410), some (.ref t1), some (.ref 407), some (.int x3), some (.int x4), some (.int (zat I (t1 + 12) 42 y1)), some (.int (zat I (t1 + 13) 42 y1)), some (.int x7), some (.int x8), some (.int y1), some (.int (zat I (t1 + 12) 42 y1)), some (.int (zat I (t1 + 13) 42 y1))]) dX4_walk_156 rfl ?_
        refine ex_step (pc' := 161) (ls' := [some (.ref 410), some (.ref t1), some (.ref 407), some (.int x3), some (.int x4), some (.int (zat I (t1 + 12) 42 y1)), some (.int (zat I (t1 + 13) 42 y1)), some (.int x7), some (.int (x8 + 1)), some (.int y1), some (.int (zat I (t1 + 12) 42 y1)), some (.int (zat I (t1 + 13) 42 y1))]) dX4_walk_158 rfl ?_
        refine ex_step (pc' := 35) dX4_walk_161 rfl ?_
        exact ex_less (ls' := [some (.ref 410), some (.ref t1), some (.ref 407), some (.int x3), some (.int x4), some (.int (zat I (t1 + 12) 42 y1)), some (.int (zat I (t1 + 13) 42 y1)), some (.int x7), some (.int (x8 + 1)), none, none, none]) ⟨rfl, ⟨rfl, ⟨rfl, ⟨rfl, ⟨rfl, ⟨rfl, ⟨rfl, ⟨rfl, ⟨rfl, trivial⟩⟩⟩⟩⟩⟩⟩⟩⟩ h
      · have h := h.2 (Classical.not_not.mp c)
        refine ex_step (pc' := 128) dX4_walk_126 rfl ?_
        refine ex_step (pc' := 133) dX4_walk_128 rfl ?_
        refine ex_step (pc' := 135) dX4_walk_133 rfl ?_
        refine ex_step (pc' := 137) dX4_walk_135 rfl ?_
        refine ex_min (by omega) dX4_walk_137 zl_RX4_83 (Nat.le_of_ble_eq_true rfl) ?_
        refine ex_step (pc' := 142) dX4_walk_140 rfl ?_
        refine ex_step (pc' := 144) dX4_walk_142 rfl ?_
        refine ex_max (by omega) dX4_walk_144 zl_RX4_88 (Nat.le_of_ble_eq_true rfl) ?_
        obtain ⟨I4, hc, h⟩ := h
        refine ex_callV (as := [.int x7, .int (zat I (t1 + 12) 42 y1), .int (if (zat I (t1 + 13) 42 y1) < x6 then (zat I (t1 + 13) 42 y1) else x6), .int (if x6 < (zat I (t1 + 13) 42 y1) then (zat I (t1 + 13) 42 y1) else x6)]) (st := []) (ci := 4) dX4_walk_147 zmX4_layAlongY zl_RX4_95 ziX4_layAlongY zvX4_layAlongY (by decide) (ly_a410 hL) rfl (Nat.le_of_ble_eq_true rfl) (Nat.le_of_ble_eq_true rfl) hc ?_
        refine ex_step (pc' := 152) dX4_walk_150 rfl ?_
        refine ex_step (pc' := 154) (ls' := [some (.ref 410), some (.ref t1), some (.ref 407), some (.int x3), some (.int x4), some (.int (zat I (t1 + 12) 42 y1)), some (.int x6), some (.int x7), some (.int x8), some (.int y1), some (.int (zat I (t1 + 12) 42 y1)), some (.int (zat I (t1 + 13) 42 y1))]) dX4_walk_152 rfl ?_
        refine ex_step (pc' := 156) dX4_walk_154 rfl ?_
        refine ex_step (pc' := 158) (ls' := [some (.ref 410), some (.ref t1), some (.ref 407), some (.int x3), some (.int x4), some (.int (zat I (t1 + 12) 42 y1)), some (.int (zat I (t1 + 13) 42 y1)), some (.int x7), some (.int x8), some (.int y1), some (.int (zat I (t1 + 12) 42 y1)), some (.int (zat I (t1 + 13) 42 y1))]) dX4_walk_156 rfl ?_
        refine ex_step (pc' := 161) (ls' := [some (.ref 410), some (.ref t1), some (.ref 407), some (.int x3), some (.int x4), some (.int (zat I (t1 + 12) 42 y1)), some (.int (zat I (t1 + 13) 42 y1)), some (.int x7), some (.int (x8 + 1)), some (.int y1), some (.int (zat I (t1 + 12) 42 y1)), some (.int (zat I (t1 + 13) 42 y1))]) dX4_walk_158 rfl ?_
        refine ex_step (pc' := 35) dX4_walk_161 rfl ?_
        exact ex_less (ls' := [some (.ref 410), some (.ref t1), some (.ref 407), some (.int x3), some (.int x4), some (.int (zat I (t1 + 12) 42 y1)), some (.int (zat I (t1 + 13) 42 y1)), some (.int x7), some (.int (x8 + 1)), none, none, none]) ⟨rfl, ⟨rfl, ⟨rfl, ⟨rfl, ⟨rfl, ⟨rfl, ⟨rfl, ⟨rfl, ⟨rfl, trivial⟩⟩⟩⟩⟩⟩⟩⟩⟩ h
    · have h := h.2 (Classical.not_not.mp c)
      refine ex_step (pc' := 96) dX4_walk_94 rfl ?_
      refine ex_step (pc' := 101) dX4_walk_96 rfl ?_
      refine ex_step (pc' := 103) dX4_walk_101 rfl ?_
      refine ex_step (pc' := 105) dX4_walk_103 rfl ?_
      refine ex_min (by omega) dX4_walk_105 zl_RX4_83 (Nat.le_of_ble_eq_true rfl) ?_
      refine ex_step (pc' := 110) dX4_walk_108 rfl ?_
      refine ex_step (pc' := 112) dX4_walk_110 rfl ?_
      refine ex_max (by omega) dX4_walk_112 zl_RX4_88 (Nat.le_of_ble_eq_true rfl) ?_
      obtain ⟨I5, hc, h⟩ := h
      refine ex_callV (as := [.int x7, .int x6, .int (if (zat I (t1 + 12) 42 y1) < x5 then (zat I (t1 + 12) 42 y1) else x5), .int (if x5 < (zat I (t1 + 12) 42 y1) then (zat I (t1 + 12) 42 y1) else x5)]) (st := []) (ci := 4) dX4_walk_115 zmX4_layAlongX zl_RX4_91 ziX4_layAlongX zvX4_layAlongX (by decide) (ly_a410 hL) rfl (Nat.le_of_ble_eq_true rfl) (Nat.le_of_ble_eq_true rfl) hc ?_
      refine ex_step (pc' := 119) dX4_walk_118 rfl ?_
      refine ex_step (pc' := 121) dX4_walk_119 rfl ?_
      refine ex_step (pc' := 123) dX4_walk_121 rfl ?_
      refine ex_if (pc' := 131) dX4_walk_123 (by decide) (fun c => ?_) (fun c => ?_)
      · have h := h.1 c
        refine ex_step (pc' := 133) dX4_walk_131 rfl ?_
        refine ex_step (pc' := 135) dX4_walk_133 rfl ?_
        refine ex_step (pc' := 137) dX4_walk_135 rfl ?_
        refine ex_min (by omega) dX4_walk_137 zl_RX4_83 (Nat.le_of_ble_eq_true rfl) ?_
        refine ex_step (pc' := 142) dX4_walk_140 rfl ?_
        refine ex_step (pc' := 144) dX4_walk_142 rfl ?_
        refine ex_max (by omega) dX4_walk_144 zl_RX4_88 (Nat.le_of_ble_eq_true rfl) ?_
        obtain ⟨I6, hc, h⟩ := h
        refine ex_callV (as := [.int x7, .int x5, .int (if (zat I (t1 + 13) 42 y1) < x6 then (zat I (t1 + 13) 42 y1) else x6), .int (if x6 < (zat I (t1 + 13) 42 y1) then (zat I (t1 + 13) 42 y1) else x6)]) (st := []) (ci := 4) dX4_walk_147 zmX4_layAlongY zl_RX4_95 ziX4_layAlongY zvX4_layAlongY (by decide) (ly_a410 hL) rfl (Nat.le_of_ble_eq_true rfl) (Nat.le_of_ble_eq_true rfl) hc ?_
        refine ex_step (pc' := 152) dX4_walk_150 rfl ?_
        refine ex_step (pc' := 154) (ls' := [some (.ref 410), some (.ref t1), some (.ref 407), some (.int x3), some (.int x4), some (.int (zat I (t1 + 12) 42 y1)), some (.int x6), some (.int x7), some (.int x8), some (.int y1), some (.int (zat I (t1 + 12) 42 y1)), some (.int (zat I (t1 + 13) 42 y1))]) dX4_walk_152 rfl ?_
        refine ex_step (pc' := 156) dX4_walk_154 rfl ?_
        refine ex_step (pc' := 158) (ls' := [some (.ref 410), some (.ref t1), some (.ref 407), some (.int x3), some (.int x4), some (.int (zat I (t1 + 12) 42 y1)), some (.int (zat I (t1 + 13) 42 y1)), some (.int x7), some (.int x8), some (.int y1), some (.int (zat I (t1 + 12) 42 y1)), some (.int (zat I (t1 + 13) 42 y1))]) dX4_walk_156 rfl ?_
        refine ex_step (pc' := 161) (ls' := [some (.ref 410), some (.ref t1), some (.ref 407), some (.int x3), some (.int x4), some (.int (zat I (t1 + 12) 42 y1)), some (.int (zat I (t1 + 13) 42 y1)), some (.int x7), some (.int (x8 + 1)), some (.int y1), some (.int (zat I (t1 + 12) 42 y1)), some (.int (zat I (t1 + 13) 42 y1))]) dX4_walk_158 rfl ?_
        refine ex_step (pc' := 35) dX4_walk_161 rfl ?_
        exact ex_less (ls' := [some (.ref 410), some (.ref t1), some (.ref 407), some (.int x3), some (.int x4), some (.int (zat I (t1 + 12) 42 y1)), some (.int (zat I (t1 + 13) 42 y1)), some (.int x7), some (.int (x8 + 1)), none, none, none]) ⟨rfl, ⟨rfl, ⟨rfl, ⟨rfl, ⟨rfl, ⟨rfl, ⟨rfl, ⟨rfl, ⟨rfl, trivial⟩⟩⟩⟩⟩⟩⟩⟩⟩ h
      · have h := h.2 (Classical.not_not.mp c)
        refine ex_step (pc' := 128) dX4_walk_126 rfl ?_
        refine ex_step (pc' := 133) dX4_walk_128 rfl ?_
        refine ex_step (pc' := 135) dX4_walk_133 rfl ?_
        refine ex_step (pc' := 137) dX4_walk_135 rfl ?_
        refine ex_min (by omega) dX4_walk_137 zl_RX4_83 (Nat.le_of_ble_eq_true rfl) ?_
        refine ex_step (pc' := 142) dX4_walk_140 rfl ?_
        refine ex_step (pc' := 144) dX4_walk_142 rfl ?_
        refine ex_max (by omega) dX4_walk_144 zl_RX4_88 (Nat.le_of_ble_eq_true rfl) ?_
        obtain ⟨I7, hc, h⟩ := h
        refine ex_callV (as := [.int x7, .int (zat I (t1 + 12) 42 y1), .int (if (zat I (t1 + 13) 42 y1) < x6 then (zat I (t1 + 13) 42 y1) else x6), .int (if x6 < (zat I (t1 + 13) 42 y1) then (zat I (t1 + 13) 42 y1) else x6)]) (st := []) (ci := 4) dX4_walk_147 zmX4_layAlongY zl_RX4_95 ziX4_layAlongY zvX4_layAlongY (by decide) (ly_a410 hL) rfl (Nat.le_of_ble_eq_true rfl) (Nat.le_of_ble_eq_true rfl) hc ?_
        refine ex_step (pc' := 152) dX4_walk_150 rfl ?_
        refine ex_step (pc' := 154) (ls' := [some (.ref 410), some (.ref t1), some (.ref 407), some (.int x3), some (.int x4), some (.int (zat I (t1 + 12) 42 y1)), some (.int x6), some (.int x7), some (.int x8), some (.int y1), some (.int (zat I (t1 + 12) 42 y1)), some (.int (zat I (t1 + 13) 42 y1))]) dX4_walk_152 rfl ?_
        refine ex_step (pc' := 156) dX4_walk_154 rfl ?_
        refine ex_step (pc' := 158) (ls' := [some (.ref 410), some (.ref t1), some (.ref 407), some (.int x3), some (.int x4), some (.int (zat I (t1 + 12) 42 y1)), some (.int (zat I (t1 + 13) 42 y1)), some (.int x7), some (.int x8), some (.int y1), some (.int (zat I (t1 + 12) 42 y1)), some (.int (zat I (t1 + 13) 42 y1))]) dX4_walk_156 rfl ?_
        refine ex_step (pc' := 161) (ls' := [some (.ref 410), some (.ref t1), some (.ref 407), some (.int x3), some (.int x4), some (.int (zat I (t1 + 12) 42 y1)), some (.int (zat I (t1 + 13) 42 y1)), some (.int x7), some (.int (x8 + 1)), some (.int y1), some (.int (zat I (t1 + 12) 42 y1)), some (.int (zat I (t1 + 13) 42 y1))]) dX4_walk_158 rfl ?_
        refine ex_step (pc' := 35) dX4_walk_161 rfl ?_
        exact ex_less (ls' := [some (.ref 410), some (.ref t1), some (.ref 407), some (.int x3), some (.int x4), some (.int (zat I (t1 + 12) 42 y1)), some (.int (zat I (t1 + 13) 42 y1)), some (.int x7), some (.int (x8 + 1)), none, none, none]) ⟨rfl, ⟨rfl, ⟨rfl, ⟨rfl, ⟨rfl, ⟨rfl, ⟨rfl, ⟨rfl, ⟨rfl, trivial⟩⟩⟩⟩⟩⟩⟩⟩⟩ h
set_option maxHeartbeats 4000000 in
theorem BX4_layAlongX_0 {d : Nat} {Z : zZ} {I : zI} {J : zJ} {o : zO} {t u : Nat} (x1 : Int32) (x2 : Int32) (x3 : Int32) (x4 : Int32) (hL : zLY Z t u)  (h : zE (d + 1) kX4_layAlongX 3 [some (.ref 410), some (.int x1), some (.int x2), none, some (.int x4), some (.int x3), none] [] Z I J o) : zE (d + 1) kX4_layAlongX 0 [some (.ref 410), some (.int x1), some (.int x2), some (.int x3), some (.int x4), none, none] [] Z I J o := by
  refine ex_step (pc' := 1) dX4_layAlongX_0 rfl ?_
  refine ex_step (pc' := 3) (ls' := [some (.ref 410), some (.int x1), some (.int x2), some (.int x3), some (.int x4), some (.int x3), none]) dX4_layAlongX_1 rfl ?_
  exact ex_less (ls' := [some (.ref 410), some (.int x1), some (.int x2), none, some (.int x4), some (.int x3), none]) ⟨rfl, ⟨rfl, ⟨rfl, ⟨rfl, ⟨rfl, trivial⟩⟩⟩⟩⟩ h
set_option maxHeartbeats 4000000 in
theorem BX4_layAlongX_3 {d : Nat} {Z : zZ} {I : zI} {J : zJ} {o : zO} {t u : Nat} (x1 : Int32) (x2 : Int32) (x4 : Int32) (x5 : Int32) (hL : zLY Z t u)  (h : ((x4 ≤ x5 → o = (none, Z, I, J)) ∧ (¬ x4 ≤ x5 → ((12 ≤ x5 → o = (none, Z, I, J)) ∧ (¬ 12 ≤ x5 → (∀ I1 : zI, I1 = zpt I 411 4032 (x1 + (zsc x5 x2 2)) ((zat I 411 4032 (x1 + (zsc x5 x2 2))) + 1) → zE (d + 1) kX4_layAlongX 3 [some (.ref 410), some (.int x1), some (.int x2), none, some (.int x4), some (.int (x5 + 1)), none] [] Z I1 J o)))))) : zE (d + 1) kX4_layAlongX 3 [some (.ref 410), some (.int x1), some (.int x2), none, some (.int x4), some (.int x5), none] [] Z I J o := by
  refine ex_step (pc' := 5) dX4_layAlongX_3 rfl ?_
  refine ex_step (pc' := 7) dX4_layAlongX_5 rfl ?_
  refine ex_icmp (pc' := 54) dX4_layAlongX_7 (by decide) (fun c => ?_) (fun c => ?_)
  · have h := h.1 c
    rw [h]; exact ex_ret (v := none) ⟨dX4_layAlongX_54, rfl⟩
  · have h := h.2 c
    refine ex_step (pc' := 12) dX4_layAlongX_10 rfl ?_
    refine ex_step (pc' := 14) (st' := [.int 12, .int x5]) dX4_layAlongX_12 rfl ?_
    refine ex_icmp (pc' := 54) dX4_layAlongX_14 (by decide) (fun c => ?_) (fun c => ?_)
    · have h := h.1 c
      rw [h]; exact ex_ret (v := none) ⟨dX4_layAlongX_54, rfl⟩
    · have h := h.2 c
      refine ex_step (pc' := 18) dX4_layAlongX_17 rfl ?_
      refine ex_step (pc' := 20) dX4_layAlongX_18 rfl ?_
      refine ex_step (pc' := 21) dX4_layAlongX_20 rfl ?_
      refine ex_step (pc' := 22) (st' := [.int 2, .int x2, .int x5, .int x1]) dX4_layAlongX_21 rfl ?_
      refine ex_callS (as := [.int x5, .int x2, .int 2]) (st := [.int x1]) dX4_layAlongX_22 zmX11_streetOf zl_RX4_98 zsX11_streetOf rfl (Nat.le_of_ble_eq_true rfl) (Nat.le_of_ble_eq_true rfl) S_streetOf ?_
      refine ex_step (pc' := 26) dX4_layAlongX_25 rfl ?_
      refine ex_step (pc' := 28) (ls' := [some (.ref 410), some (.int x1), some (.int x2), none, some (.int x4), some (.int x5), some (.int (x1 + (zsc x5 x2 2)))]) dX4_layAlongX_26 rfl ?_
      refine ex_step (pc' := 29) dX4_layAlongX_28 rfl ?_
      refine ex_getr dX4_layAlongX_29 wf_RX4_9 (ly_a410 hL) rfl (ly_r410_2 hL) ?_
      refine ex_step (pc' := 34) dX4_layAlongX_32 rfl ?_
      refine ex_step (pc' := 35) dX4_layAlongX_34 rfl ?_
      refine ex_getr dX4_layAlongX_35 wf_RX4_9 (ly_a410 hL) rfl (ly_r410_2 hL) ?_
      refine ex_step (pc' := 40) dX4_layAlongX_38 rfl ?_
      refine ex_callS (as := [.ref 411, .int (x1 + (zsc x5 x2 2))]) (st := [.int (x1 + (zsc x5 x2 2)), .ref 411]) dX4_layAlongX_40 zmX11_at zl_RX4_64 zsX11_at rfl (Nat.le_of_ble_eq_true rfl) (Nat.le_of_ble_eq_true rfl) (S_at' (by decide) (ly_a411 hL)) ?_
      refine ex_step (pc' := 44) (st' := [.int 1, .int (zat I 411 4032 (x1 + (zsc x5 x2 2))), .int (x1 + (zsc x5 x2 2)), .ref 411]) dX4_layAlongX_43 rfl ?_
      refine ex_step (pc' := 45) dX4_layAlongX_44 rfl ?_
      obtain ⟨I1, eI1⟩ : ∃ q : zI, q = zpt I 411 4032 (x1 + (zsc x5 x2 2)) ((zat I 411 4032 (x1 + (zsc x5 x2 2))) + 1) := ⟨_, rfl⟩
      have h := h I1 eI1
      refine ex_callS (as := [.ref 411, .int (x1 + (zsc x5 x2 2)), .int ((zat I 411 4032 (x1 + (zsc x5 x2 2))) + 1)]) (st := []) dX4_layAlongX_45 zmX11_put zl_RX4_47 zsX11_put rfl (Nat.le_of_ble_eq_true rfl) (Nat.le_of_ble_eq_true rfl) (eI1 ▸ (S_put' (by decide) (ly_a411 hL))) ?_
      refine ex_step (pc' := 51) (ls' := [some (.ref 410), some (.int x1), some (.int x2), none, some (.int x4), some (.int (x5 + 1)), some (.int (x1 + (zsc x5 x2 2)))]) dX4_layAlongX_48 rfl ?_
      refine ex_step (pc' := 3) dX4_layAlongX_51 rfl ?_
      exact ex_less (ls' := [some (.ref 410), some (.int x1), some (.int x2), none, some (.int x4), some (.int (x5 + 1)), none]) ⟨rfl, ⟨rfl, ⟨rfl, ⟨rfl, ⟨rfl, trivial⟩⟩⟩⟩⟩ h
set_option maxHeartbeats 4000000 in
theorem BX4_layAlongY_0 {d : Nat} {Z : zZ} {I : zI} {J : zJ} {o : zO} {t u : Nat} (x1 : Int32) (x2 : Int32) (x3 : Int32) (x4 : Int32) (hL : zLY Z t u)  (h : zE (d + 1) kX4_layAlongY 3 [some (.ref 410), some (.int x1), some (.int x2), none, some (.int x4), some (.int x3), none] [] Z I J o) : zE (d + 1) kX4_layAlongY 0 [some (.ref 410), some (.int x1), some (.int x2), some (.int x3), some (.int x4), none, none] [] Z I J o := by
  refine ex_step (pc' := 1) dX4_layAlongY_0 rfl ?_
  refine ex_step (pc' := 3) (ls' := [some (.ref 410), some (.int x1), some (.int x2), some (.int x3), some (.int x4), some (.int x3), none]) dX4_layAlongY_1 rfl ?_
  exact ex_less (ls' := [some (.ref 410), some (.int x1), some (.int x2), none, some (.int x4), some (.int x3), none]) ⟨rfl, ⟨rfl, ⟨rfl, ⟨rfl, ⟨rfl, trivial⟩⟩⟩⟩⟩ h
set_option maxHeartbeats 4000000 in
theorem BX4_layAlongY_3 {d : Nat} {Z : zZ} {I : zI} {J : zJ} {o : zO} {t u : Nat} (x1 : Int32) (x2 : Int32) (x4 : Int32) (x5 : Int32) (hL : zLY Z t u)  (h : ((x4 ≤ x5 → o = (none, Z, I, J)) ∧ (¬ x4 ≤ x5 → ((12 ≤ x5 → o = (none, Z, I, J)) ∧ (¬ 12 ≤ x5 → (∀ I1 : zI, I1 = zpt I 411 4032 (x1 + (zsc x2 x5 1)) ((zat I 411 4032 (x1 + (zsc x2 x5 1))) + 1) → zE (d + 1) kX4_layAlongY 3 [some (.ref 410), some (.int x1), some (.int x2), none, some (.int x4), some (.int (x5 + 1)), none] [] Z I1 J o)))))) : zE (d + 1) kX4_layAlongY 3 [some (.ref 410), some (.int x1), some (.int x2), none, some (.int x4), some (.int x5), none] [] Z I J o := by
  refine ex_step (pc' := 5) dX4_layAlongY_3 rfl ?_
  refine ex_step (pc' := 7) dX4_layAlongY_5 rfl ?_
  refine ex_icmp (pc' := 54) dX4_layAlongY_7 (by decide) (fun c => ?_) (fun c => ?_)
  · have h := h.1 c
    rw [h]; exact ex_ret (v := none) ⟨dX4_layAlongY_54, rfl⟩
  · have h := h.2 c
    refine ex_step (pc' := 12) dX4_layAlongY_10 rfl ?_
    refine ex_step (pc' := 14) (st' := [.int 12, .int x5]) dX4_layAlongY_12 rfl ?_
    refine ex_icmp (pc' := 54) dX4_layAlongY_14 (by decide) (fun c => ?_) (fun c => ?_)
    · have h := h.1 c
      rw [h]; exact ex_ret (v := none) ⟨dX4_layAlongY_54, rfl⟩
    · have h := h.2 c
      refine ex_step (pc' := 18) dX4_layAlongY_17 rfl ?_
      refine ex_step (pc' := 19) dX4_layAlongY_18 rfl ?_
      refine ex_step (pc' := 21) dX4_layAlongY_19 rfl ?_
      refine ex_step (pc' := 22) (st' := [.int 1, .int x5, .int x2, .int x1]) dX4_layAlongY_21 rfl ?_
      refine ex_callS (as := [.int x2, .int x5, .int 1]) (st := [.int x1]) dX4_layAlongY_22 zmX11_streetOf zl_RX4_98 zsX11_streetOf rfl (Nat.le_of_ble_eq_true rfl) (Nat.le_of_ble_eq_true rfl) S_streetOf ?_
      refine ex_step (pc' := 26) dX4_layAlongY_25 rfl ?_
      refine ex_step (pc' := 28) (ls' := [some (.ref 410), some (.int x1), some (.int x2), none, some (.int x4), some (.int x5), some (.int (x1 + (zsc x2 x5 1)))]) dX4_layAlongY_26 rfl ?_
      refine ex_step (pc' := 29) dX4_layAlongY_28 rfl ?_
      refine ex_getr dX4_layAlongY_29 wf_RX4_9 (ly_a410 hL) rfl (ly_r410_2 hL) ?_
      refine ex_step (pc' := 34) dX4_layAlongY_32 rfl ?_
      refine ex_step (pc' := 35) dX4_layAlongY_34 rfl ?_
      refine ex_getr dX4_layAlongY_35 wf_RX4_9 (ly_a410 hL) rfl (ly_r410_2 hL) ?_
      refine ex_step (pc' := 40) dX4_layAlongY_38 rfl ?_
      refine ex_callS (as := [.ref 411, .int (x1 + (zsc x2 x5 1))]) (st := [.int (x1 + (zsc x2 x5 1)), .ref 411]) dX4_layAlongY_40 zmX11_at zl_RX4_64 zsX11_at rfl (Nat.le_of_ble_eq_true rfl) (Nat.le_of_ble_eq_true rfl) (S_at' (by decide) (ly_a411 hL)) ?_
      refine ex_step (pc' := 44) (st' := [.int 1, .int (zat I 411 4032 (x1 + (zsc x2 x5 1))), .int (x1 + (zsc x2 x5 1)), .ref 411]) dX4_layAlongY_43 rfl ?_
      refine ex_step (pc' := 45) dX4_layAlongY_44 rfl ?_
      obtain ⟨I1, eI1⟩ : ∃ q : zI, q = zpt I 411 4032 (x1 + (zsc x2 x5 1)) ((zat I 411 4032 (x1 + (zsc x2 x5 1))) + 1) := ⟨_, rfl⟩
      have h := h I1 eI1
      refine ex_callS (as := [.ref 411, .int (x1 + (zsc x2 x5 1)), .int ((zat I 411 4032 (x1 + (zsc x2 x5 1))) + 1)]) (st := []) dX4_layAlongY_45 zmX11_put zl_RX4_47 zsX11_put rfl (Nat.le_of_ble_eq_true rfl) (Nat.le_of_ble_eq_true rfl) (eI1 ▸ (S_put' (by decide) (ly_a411 hL))) ?_
      refine ex_step (pc' := 51) (ls' := [some (.ref 410), some (.int x1), some (.int x2), none, some (.int x4), some (.int (x5 + 1)), some (.int (x1 + (zsc x2 x5 1)))]) dX4_layAlongY_48 rfl ?_
      refine ex_step (pc' := 3) dX4_layAlongY_51 rfl ?_
      exact ex_less (ls' := [some (.ref 410), some (.int x1), some (.int x2), none, some (.int x4), some (.int (x5 + 1)), none]) ⟨rfl, ⟨rfl, ⟨rfl, ⟨rfl, ⟨rfl, trivial⟩⟩⟩⟩⟩ h
set_option maxHeartbeats 4000000 in
theorem BX4_countMeetings_0 {d : Nat} {Z : zZ} {I : zI} {J : zJ} {o : zO} {t u : Nat} (x1 : Int32) (x2 : Int32) (hL : zLY Z t u)  (h : zE (d + 1) kX4_countMeetings 5 [some (.ref 410), some (.int x1), some (.int x2), some (.int 0), some (.int 0)] [] Z I J o) : zE (d + 1) kX4_countMeetings 0 [some (.ref 410), some (.int x1), some (.int x2), none, none] [] Z I J o := by
  refine ex_step (pc' := 1) (st' := [.int 0]) dX4_countMeetings_0 rfl ?_
  refine ex_step (pc' := 2) (ls' := [some (.ref 410), some (.int x1), some (.int x2), some (.int 0), none]) dX4_countMeetings_1 rfl ?_
  refine ex_step (pc' := 3) (st' := [.int 0]) dX4_countMeetings_2 rfl ?_
  refine ex_step (pc' := 5) (ls' := [some (.ref 410), some (.int x1), some (.int x2), some (.int 0), some (.int 0)]) dX4_countMeetings_3 rfl ?_
  exact h
set_option maxHeartbeats 4000000 in
theorem BX4_countMeetings_5 {d : Nat} {Z : zZ} {I : zI} {J : zJ} {o : zO} {t u : Nat} (x1 : Int32) (x2 : Int32) (x3 : Int32) (x4 : Int32) (hL : zLY Z t u)  (h : ((288 ≤ x4 → o = (some (.int x3), Z, I, J)) ∧ (¬ 288 ≤ x4 → (∀ y1 : Int32, y1 = (x3 + ((zat I 411 4032 ((x1 * 288) + x4)) * (zat I 411 4032 ((x2 * 288) + x4)))) → zE (d + 1) kX4_countMeetings 5 [some (.ref 410), some (.int x1), some (.int x2), some (.int y1), some (.int (x4 + 1))] [] Z I J o)))) : zE (d + 1) kX4_countMeetings 5 [some (.ref 410), some (.int x1), some (.int x2), some (.int x3), some (.int x4)] [] Z I J o := by
  refine ex_step (pc' := 7) dX4_countMeetings_5 rfl ?_
  refine ex_step (pc' := 10) (st' := [.int 288, .int x4]) dX4_countMeetings_7 rfl ?_
  refine ex_icmp (pc' := 53) dX4_countMeetings_10 (by decide) (fun c => ?_) (fun c => ?_)
  · have h := h.1 c
    refine ex_step (pc' := 54) dX4_countMeetings_53 rfl ?_
    rw [h]; exact ex_ret (v := some (.int x3)) ⟨dX4_countMeetings_54, _, rfl, rfl⟩
  · have h := h.2 c
    refine ex_step (pc' := 14) dX4_countMeetings_13 rfl ?_
    refine ex_step (pc' := 15) dX4_countMeetings_14 rfl ?_
    refine ex_getr dX4_countMeetings_15 wf_RX4_9 (ly_a410 hL) rfl (ly_r410_2 hL) ?_
    refine ex_step (pc' := 19) dX4_countMeetings_18 rfl ?_
    refine ex_step (pc' := 22) (st' := [.int 288, .int x1, .ref 411, .int x3]) dX4_countMeetings_19 rfl ?_
    refine ex_step (pc' := 23) dX4_countMeetings_22 rfl ?_
    refine ex_step (pc' := 25) dX4_countMeetings_23 rfl ?_
    refine ex_step (pc' := 26) dX4_countMeetings_25 rfl ?_
    refine ex_callS (as := [.ref 411, .int ((x1 * 288) + x4)]) (st := [.int x3]) dX4_countMeetings_26 zmX11_at zl_RX4_64 zsX11_at rfl (Nat.le_of_ble_eq_true rfl) (Nat.le_of_ble_eq_true rfl) (S_at' (by decide) (ly_a411 hL)) ?_
    refine ex_step (pc' := 30) dX4_countMeetings_29 rfl ?_
    refine ex_getr dX4_countMeetings_30 wf_RX4_9 (ly_a410 hL) rfl (ly_r410_2 hL) ?_
    refine ex_step (pc' := 34) dX4_countMeetings_33 rfl ?_
    refine ex_step (pc' := 37) (st' := [.int 288, .int x2, .ref 411, .int (zat I 411 4032 ((x1 * 288) + x4)), .int x3]) dX4_countMeetings_34 rfl ?_
    refine ex_step (pc' := 38) dX4_countMeetings_37 rfl ?_
    refine ex_step (pc' := 40) dX4_countMeetings_38 rfl ?_
    refine ex_step (pc' := 41) dX4_countMeetings_40 rfl ?_
    refine ex_callS (as := [.ref 411, .int ((x2 * 288) + x4)]) (st := [.int (zat I 411 4032 ((x1 * 288) + x4)), .int x3]) dX4_countMeetings_41 zmX11_at zl_RX4_64 zsX11_at rfl (Nat.le_of_ble_eq_true rfl) (Nat.le_of_ble_eq_true rfl) (S_at' (by decide) (ly_a411 hL)) ?_
    refine ex_step (pc' := 45) dX4_countMeetings_44 rfl ?_
    refine ex_step (pc' := 46) dX4_countMeetings_45 rfl ?_
    refine ex_topi (fun y1 ey1 => ?_)
    have h := h y1 ey1
    refine ex_step (pc' := 47) (ls' := [some (.ref 410), some (.int x1), some (.int x2), some (.int y1), some (.int x4)]) dX4_countMeetings_46 rfl ?_
    refine ex_step (pc' := 50) (ls' := [some (.ref 410), some (.int x1), some (.int x2), some (.int y1), some (.int (x4 + 1))]) dX4_countMeetings_47 rfl ?_
    refine ex_step (pc' := 5) dX4_countMeetings_50 rfl ?_
    exact h
set_option maxHeartbeats 4000000 in
theorem BX4_countAll_0 {d : Nat} {Z : zZ} {I : zI} {J : zJ} {o : zO} {t u : Nat} (x1 : Int32) (x2 : Int32) (hL : zLY Z t u)  (h : zE (d + 1) kX4_countAll 5 [some (.ref 410), some (.int x1), some (.int x2), some (.int 0), some (.int 0), none, none, none] [] Z I J o) : zE (d + 1) kX4_countAll 0 [some (.ref 410), some (.int x1), some (.int x2), none, none, none, none, none] [] Z I J o := by
  refine ex_step (pc' := 1) (st' := [.int 0]) dX4_countAll_0 rfl ?_
  refine ex_step (pc' := 2) (ls' := [some (.ref 410), some (.int x1), some (.int x2), some (.int 0), none, none, none, none]) dX4_countAll_1 rfl ?_
  refine ex_step (pc' := 3) (st' := [.int 0]) dX4_countAll_2 rfl ?_
  refine ex_step (pc' := 5) (ls' := [some (.ref 410), some (.int x1), some (.int x2), some (.int 0), some (.int 0), none, none, none]) dX4_countAll_3 rfl ?_
  exact h
set_option maxHeartbeats 4000000 in
theorem BX4_countAll_5 {d : Nat} {Z : zZ} {I : zI} {J : zJ} {o : zO} {t u : Nat} (x1 : Int32) (x2 : Int32) (x3 : Int32) (x4 : Int32) (hL : zLY Z t u)  (h : ((x1 ≤ x4 → o = (some (.int x3), Z, I, J)) ∧ (¬ x1 ≤ x4 → (∀ y1 : Int32, y1 = (((2 : Int32) * x4) + ((x2 >>> (x4 &&& 31)) &&& 1)) → zE (d + 1) kX4_countAll 27 [some (.ref 410), some (.int x1), some (.int x2), some (.int x3), some (.int x4), some (.int y1), some (.int 0), none] [] Z I J o)))) : zE (d + 1) kX4_countAll 5 [some (.ref 410), some (.int x1), some (.int x2), some (.int x3), some (.int x4), none, none, none] [] Z I J o := by
  refine ex_step (pc' := 7) dX4_countAll_5 rfl ?_
  refine ex_step (pc' := 8) dX4_countAll_7 rfl ?_
  refine ex_icmp (pc' := 79) dX4_countAll_8 (by decide) (fun c => ?_) (fun c => ?_)
  · have h := h.1 c
    refine ex_step (pc' := 80) dX4_countAll_79 rfl ?_
    rw [h]; exact ex_ret (v := some (.int x3)) ⟨dX4_countAll_80, _, rfl, rfl⟩
  · have h := h.2 c
    refine ex_step (pc' := 12) (st' := [.int 2]) dX4_countAll_11 rfl ?_
    refine ex_step (pc' := 14) dX4_countAll_12 rfl ?_
    refine ex_step (pc' := 15) dX4_countAll_14 rfl ?_
    refine ex_step (pc' := 16) dX4_countAll_15 rfl ?_
    refine ex_step (pc' := 18) dX4_countAll_16 rfl ?_
    refine ex_step (pc' := 19) dX4_countAll_18 rfl ?_
    refine ex_step (pc' := 20) (st' := [.int 1, .int (x2 >>> (x4 &&& 31)), .int ((2 : Int32) * x4)]) dX4_countAll_19 rfl ?_
    refine ex_step (pc' := 21) dX4_countAll_20 rfl ?_
    refine ex_step (pc' := 22) dX4_countAll_21 rfl ?_
    refine ex_topi (fun y1 ey1 => ?_)
    have h := h y1 ey1
    refine ex_step (pc' := 24) (ls' := [some (.ref 410), some (.int x1), some (.int x2), some (.int x3), some (.int x4), some (.int y1), none, none]) dX4_countAll_22 rfl ?_
    refine ex_step (pc' := 25) (st' := [.int 0]) dX4_countAll_24 rfl ?_
    refine ex_step (pc' := 27) (ls' := [some (.ref 410), some (.int x1), some (.int x2), some (.int x3), some (.int x4), some (.int y1), some (.int 0), none]) dX4_countAll_25 rfl ?_
    exact h
set_option maxHeartbeats 4000000 in
theorem BX4_countAll_27 {d : Nat} {Z : zZ} {I : zI} {J : zJ} {o : zO} {t u : Nat} (x1 : Int32) (x2 : Int32) (x3 : Int32) (x4 : Int32) (x5 : Int32) (x6 : Int32) (hL : zLY Z t u)  (h : ((x4 ≤ x6 → zE (d + 1) kX4_countAll 5 [some (.ref 410), some (.int x1), some (.int x2), some (.int x3), some (.int (x4 + 1)), none, none, none] [] Z I J o) ∧ (¬ x4 ≤ x6 → (∀ y1 : Int32, y1 = (((2 : Int32) * x6) + ((x2 >>> (x6 &&& 31)) &&& 1)) → (∀ y2 : Int32, y2 = (x3 + (zat I 412 196 (((x5 * 2) * 7) + y1))) → zE (d + 1) kX4_countAll 27 [some (.ref 410), some (.int x1), some (.int x2), some (.int y2), some (.int x4), some (.int x5), some (.int (x6 + 1)), none] [] Z I J o))))) : zE (d + 1) kX4_countAll 27 [some (.ref 410), some (.int x1), some (.int x2), some (.int x3), some (.int x4), some (.int x5), some (.int x6), none] [] Z I J o := by
  refine ex_step (pc' := 29) dX4_countAll_27 rfl ?_
  refine ex_step (pc' := 31) dX4_countAll_29 rfl ?_
  refine ex_icmp (pc' := 73) dX4_countAll_31 (by decide) (fun c => ?_) (fun c => ?_)
  · have h := h.1 c
    refine ex_step (pc' := 76) (ls' := [some (.ref 410), some (.int x1), some (.int x2), some (.int x3), some (.int (x4 + 1)), some (.int x5), some (.int x6), none]) dX4_countAll_73 rfl ?_
    refine ex_step (pc' := 5) dX4_countAll_76 rfl ?_
    exact ex_less (ls' := [some (.ref 410), some (.int x1), some (.int x2), some (.int x3), some (.int (x4 + 1)), none, none, none]) ⟨rfl, ⟨rfl, ⟨rfl, ⟨rfl, ⟨rfl, trivial⟩⟩⟩⟩⟩ h
  · have h := h.2 c
    refine ex_step (pc' := 35) (st' := [.int 2]) dX4_countAll_34 rfl ?_
    refine ex_step (pc' := 37) dX4_countAll_35 rfl ?_
    refine ex_step (pc' := 38) dX4_countAll_37 rfl ?_
    refine ex_step (pc' := 39) dX4_countAll_38 rfl ?_
    refine ex_step (pc' := 41) dX4_countAll_39 rfl ?_
    refine ex_step (pc' := 42) dX4_countAll_41 rfl ?_
    refine ex_step (pc' := 43) (st' := [.int 1, .int (x2 >>> (x6 &&& 31)), .int ((2 : Int32) * x6)]) dX4_countAll_42 rfl ?_
    refine ex_step (pc' := 44) dX4_countAll_43 rfl ?_
    refine ex_step (pc' := 45) dX4_countAll_44 rfl ?_
    refine ex_topi (fun y1 ey1 => ?_)
    have h := h y1 ey1
    refine ex_step (pc' := 47) (ls' := [some (.ref 410), some (.int x1), some (.int x2), some (.int x3), some (.int x4), some (.int x5), some (.int x6), some (.int y1)]) dX4_countAll_45 rfl ?_
    refine ex_step (pc' := 48) dX4_countAll_47 rfl ?_
    refine ex_step (pc' := 49) dX4_countAll_48 rfl ?_
    refine ex_getr dX4_countAll_49 wf_RX4_15 (ly_a410 hL) rfl (ly_r410_3 hL) ?_
    refine ex_step (pc' := 54) dX4_countAll_52 rfl ?_
    refine ex_step (pc' := 55) (st' := [.int 2, .int x5, .ref 412, .int x3]) dX4_countAll_54 rfl ?_
    refine ex_step (pc' := 56) dX4_countAll_55 rfl ?_
    refine ex_step (pc' := 58) (st' := [.int 7, .int (x5 * 2), .ref 412, .int x3]) dX4_countAll_56 rfl ?_
    refine ex_step (pc' := 59) dX4_countAll_58 rfl ?_
    refine ex_step (pc' := 61) dX4_countAll_59 rfl ?_
    refine ex_step (pc' := 62) dX4_countAll_61 rfl ?_
    refine ex_callS (as := [.ref 412, .int (((x5 * 2) * 7) + y1)]) (st := [.int x3]) dX4_countAll_62 zmX11_at zl_RX4_64 zsX11_at rfl (Nat.le_of_ble_eq_true rfl) (Nat.le_of_ble_eq_true rfl) (S_at' (by decide) (ly_a412 hL)) ?_
    refine ex_step (pc' := 66) dX4_countAll_65 rfl ?_
    refine ex_topi (fun y2 ey2 => ?_)
    have h := h y2 ey2
    refine ex_step (pc' := 67) (ls' := [some (.ref 410), some (.int x1), some (.int x2), some (.int y2), some (.int x4), some (.int x5), some (.int x6), some (.int y1)]) dX4_countAll_66 rfl ?_
    refine ex_step (pc' := 70) (ls' := [some (.ref 410), some (.int x1), some (.int x2), some (.int y2), some (.int x4), some (.int x5), some (.int (x6 + 1)), some (.int y1)]) dX4_countAll_67 rfl ?_
    refine ex_step (pc' := 27) dX4_countAll_70 rfl ?_
    exact ex_less (ls' := [some (.ref 410), some (.int x1), some (.int x2), some (.int y2), some (.int x4), some (.int x5), some (.int (x6 + 1)), none]) ⟨rfl, ⟨rfl, ⟨rfl, ⟨rfl, ⟨rfl, ⟨rfl, ⟨rfl, trivial⟩⟩⟩⟩⟩⟩⟩ h
set_option maxHeartbeats 4000000 in
theorem BX5_begin_0 {d : Nat} {Z : zZ} {I : zI} {J : zJ} {o : zO} {t u : Nat} (x2 : Int32) (hL : zLY Z t u)  (h : (∃ (I1 : zI) (J2 : zJ), zE (d + 7) kX8_split 0 [some (.ref 20), some (.ref 1), some (.int x2), none, none, none, none] [] Z I J (none, Z, I1, J2) ∧ (∃ (I3 : zI), zE (d + 7) kX6_clear 0 [some (.ref u)] [] Z I1 J2 (none, Z, I3, J2) ∧ (∀ I4 : zI, I4 = zu I3 2 6 0 → (∀ I5 : zI, I5 = zu I4 2 7 0 → (∀ I6 : zI, I6 = zu I5 2 12 0 → (∀ I7 : zI, I7 = zu I6 2 3 0 → (∃ (I8 : zI), zE (d + 7) kX5_look 0 [some (.ref 2)] [] Z I7 J2 (none, Z, I8, J2) ∧ o = (none, Z, I8, J2))))))))) : zE (d + 8) kX5_begin 0 [some (.ref 2), some (.ref 1), some (.int x2)] [] Z I J o := by
  refine ex_step (pc' := 1) dX5_begin_0 rfl ?_
  refine ex_getr dX5_begin_1 wf_RX5_21 (ly_a2 hL) rfl (ly_r2_2 hL) ?_
  refine ex_step (pc' := 5) dX5_begin_4 rfl ?_
  refine ex_step (pc' := 6) dX5_begin_5 rfl ?_
  obtain ⟨I1, J2, hc, h⟩ := h
  refine ex_callV (as := [.ref 1, .int x2]) (st := []) (ci := 8) dX5_begin_6 zmX8_split zl_RX5_38 ziX8_split zvX8_split (by decide) (ly_a20 hL) rfl (Nat.le_of_ble_eq_true rfl) (Nat.le_of_ble_eq_true rfl) hc ?_
  refine ex_step (pc' := 10) dX5_begin_9 rfl ?_
  refine ex_getr dX5_begin_10 wf_RX5_14 (ly_a2 hL) rfl (ly_rtext hL) ?_
  obtain ⟨I3, hc, h⟩ := h
  refine ex_callV (as := []) (st := []) (ci := 6) dX5_begin_13 zmX6_clear zl_RX5_42 ziX6_clear zvX6_clear (by decide) (zTx_o (ly_ux hL)) rfl (Nat.le_of_ble_eq_true rfl) (Nat.le_of_ble_eq_true rfl) hc ?_
  refine ex_step (pc' := 17) dX5_begin_16 rfl ?_
  refine ex_step (pc' := 18) (st' := [.int 0, .ref 2]) dX5_begin_17 rfl ?_
  refine ex_putiN dX5_begin_18 (wp_RX5_45 _) (ly_a2 hL) rfl ⟨rfl, rfl⟩ (fun I4 eI4 => ?_)
  have h := h I4 eI4
  refine ex_step (pc' := 22) dX5_begin_21 rfl ?_
  refine ex_step (pc' := 23) (st' := [.int 0, .ref 2]) dX5_begin_22 rfl ?_
  refine ex_putiN dX5_begin_23 (wp_RX5_49 _) (ly_a2 hL) rfl ⟨rfl, rfl⟩ (fun I5 eI5 => ?_)
  have h := h I5 eI5
  refine ex_step (pc' := 27) dX5_begin_26 rfl ?_
  refine ex_step (pc' := 28) (st' := [.int 0, .ref 2]) dX5_begin_27 rfl ?_
  refine ex_putiN dX5_begin_28 (wp_RX5_52 _) (ly_a2 hL) rfl ⟨rfl, rfl⟩ (fun I6 eI6 => ?_)
  have h := h I6 eI6
  refine ex_step (pc' := 32) dX5_begin_31 rfl ?_
  refine ex_step (pc' := 33) (st' := [.int 0, .ref 2]) dX5_begin_32 rfl ?_
  refine ex_putiN dX5_begin_33 (wp_RX5_55 _) (ly_a2 hL) rfl ⟨rfl, rfl⟩ (fun I7 eI7 => ?_)
  have h := h I7 eI7
  refine ex_step (pc' := 37) dX5_begin_36 rfl ?_
  obtain ⟨I8, hc, h⟩ := h
  refine ex_callV (as := []) (st := []) (ci := 5) dX5_begin_37 zmX5_look zl_RX5_58 ziX5_look zvX5_look (by decide) (ly_a2 hL) rfl (Nat.le_of_ble_eq_true rfl) (Nat.le_of_ble_eq_true rfl) hc ?_
  rw [h]; exact ex_ret (v := none) ⟨dX5_begin_40, rfl⟩
set_option maxHeartbeats 4000000 in
theorem BX5_readTells_0 {d : Nat} {Z : zZ} {I : zI} {J : zJ} {o : zO} {t u : Nat}  (hL : zLY Z t u)  (h : zE (d + 6) kX5_readTells 2 [some (.ref 2), some (.int 0)] [] Z I J o) : zE (d + 6) kX5_readTells 0 [some (.ref 2), none] [] Z I J o := by
  refine ex_step (pc' := 1) (st' := [.int 0]) dX5_readTells_0 rfl ?_
  refine ex_step (pc' := 2) (ls' := [some (.ref 2), some (.int 0)]) dX5_readTells_1 rfl ?_
  exact h
set_option maxHeartbeats 4000000 in
theorem BX5_readTells_2 {d : Nat} {Z : zZ} {I : zI} {J : zJ} {o : zO} {t u : Nat} (x1 : Int32) (hL : zLY Z t u)  (h : ((400 < x1 → o = (none, Z, I, J)) ∧ (¬ 400 < x1 → ((¬ (I 2 6) = 0 → o = (none, Z, I, J)) ∧ ((I 2 6) = 0 → (((I 2 4) = 0 → o = (none, Z, I, J)) ∧ (¬ (I 2 4) = 0 → (((I 2 4).toInt < 128 ∨ 135 < (I 2 4).toInt → (∃ (I1 : zI), zE (d + 5) kX5_fail 0 [some (.ref 2), some (.int 1), some (.int (I 2 5))] [] Z I J (none, Z, I1, J) ∧ zE (d + 6) kX5_readTells 250 [some (.ref 2), some (.int x1)] [] Z I1 J o)) ∧ ((I 2 4) = 128 → (∃ (I2 : zI), zE (d + 5) kX5_take 0 [some (.ref 2), some (.int (I 2 4))] [] Z I J (none, Z, I2, J) ∧ (∃ (v3 : Int32) (I4 : zI), zE (d + 5) kX5_takeInt 0 [some (.ref 2), some (.int 2), some (.int 12), none, none] [] Z I2 J (some (.int v3), Z, I4, J) ∧ (∀ I5 : zI, I5 = zu I4 u 0 v3 → (∃ (v6 : Int32) (I7 : zI), zE (d + 5) kX5_takeInt 0 [some (.ref 2), some (.int 2), some (.int 12), none, none] [] Z I5 J (some (.int v6), Z, I7, J) ∧ (∀ I8 : zI, I8 = zu I7 u 1 v6 → zE (d + 6) kX5_readTells 250 [some (.ref 2), some (.int x1)] [] Z I8 J o)))))) ∧ ((I 2 4) = 129 → (∃ (I9 : zI) (J10 : zJ), zE (d + 5) kX5_readMan 0 [some (.ref 2), none, none, none, none] [] Z I J (none, Z, I9, J10) ∧ zE (d + 6) kX5_readTells 250 [some (.ref 2), some (.int x1)] [] Z I9 J10 o)) ∧ ((I 2 4) = 130 → (∃ (I11 : zI), zE (d + 5) kX5_take 0 [some (.ref 2), some (.int (I 2 4))] [] Z I J (none, Z, I11, J) ∧ (∃ (v12 : Int32) (I13 : zI), zE (d + 5) kX5_takeMan 0 [some (.ref 2), none, none] [] Z I11 J (some (.int v12), Z, I13, J) ∧ (∃ (v14 : Int32) (I15 : zI), zE (d + 5) kX5_readLaw 0 [some (.ref 2), none, none, none, none] [] Z I13 J (some (.int v14), Z, I15, J) ∧ (∀ I16 : zI, I16 = zpt I15 (u + 8) 7 v12 v14 → zE (d + 6) kX5_readTells 250 [some (.ref 2), some (.int x1)] [] Z I16 J o))))) ∧ ((I 2 4) = 131 → (∃ (I17 : zI), zE (d + 5) kX5_take 0 [some (.ref 2), some (.int (I 2 4))] [] Z I J (none, Z, I17, J) ∧ (∃ (v18 : Int32) (I19 : zI), zE (d + 5) kX5_readLaw 0 [some (.ref 2), none, none, none, none] [] Z I17 J (some (.int v18), Z, I19, J) ∧ (∀ I20 : zI, I20 = zu I19 u 5 v18 → zE (d + 6) kX5_readTells 250 [some (.ref 2), some (.int x1)] [] Z I20 J o)))) ∧ ((I 2 4) = 132 → (∃ (I21 : zI), zE (d + 5) kX5_readErrand 0 [some (.ref 2), none, none, none, none] [] Z I J (none, Z, I21, J) ∧ zE (d + 6) kX5_readTells 250 [some (.ref 2), some (.int x1)] [] Z I21 J o)) ∧ ((I 2 4) = 133 → (∃ (I22 : zI), zE (d + 5) kX5_readPillar 0 [some (.ref 2), none, none] [] Z I J (none, Z, I22, J) ∧ zE (d + 6) kX5_readTells 250 [some (.ref 2), some (.int x1)] [] Z I22 J o)) ∧ ((I 2 4) = 134 → (∃ (I23 : zI), zE (d + 5) kX5_take 0 [some (.ref 2), some (.int (I 2 4))] [] Z I J (none, Z, I23, J) ∧ (∃ (v24 : Int32) (I25 : zI), zE (d + 5) kX5_takeMan 0 [some (.ref 2), none, none] [] Z I23 J (some (.int v24), Z, I25, J) ∧ (∃ (v26 : Int32) (I27 : zI), zE (d + 5) kX5_takeInt 0 [some (.ref 2), some (.int 0), some (.int 9), none, none] [] Z I25 J (some (.int v26), Z, I27, J) ∧ (∀ I28 : zI, I28 = zpt I27 (u + 10) 7 v24 v26 → zE (d + 6) kX5_readTells 250 [some (.ref 2), some (.int x1)] [] Z I28 J o))))) ∧ ((I 2 4) = 135 → (∃ (I29 : zI), zE (d + 5) kX5_take 0 [some (.ref 2), some (.int (I 2 4))] [] Z I J (none, Z, I29, J) ∧ (∃ (v30 : Int32) (I31 : zI), zE (d + 5) kX5_takeInt 0 [some (.ref 2), some (.int 0), some (.int 9999), none, none] [] Z I29 J (some (.int v30), Z, I31, J) ∧ (∀ I32 : zI, I32 = zu I31 u 4 v30 → zE (d + 6) kX5_readTells 250 [some (.ref 2), some (.int x1)] [] Z I32 J o)))))))))))) : zE (d + 6) kX5_readTells 2 [some (.ref 2), some (.int x1)] [] Z I J o := by
  refine ex_step (pc' := 3) dX5_readTells_2 rfl ?_
  refine ex_step (pc' := 6) (st' := [.int 400, .int x1]) dX5_readTells_3 rfl ?_
  refine ex_icmp (pc' := 262) dX5_readTells_6 (by decide) (fun c => ?_) (fun c => ?_)
  · have h := h.1 c
    rw [h]; exact ex_ret (v := none) ⟨dX5_readTells_262, rfl⟩
  · have h := h.2 c
    refine ex_step (pc' := 10) dX5_readTells_9 rfl ?_
    refine ex_geti dX5_readTells_10 wf_RX5_45 (ly_a2 hL) rfl ?_
    refine ex_if (pc' := 262) dX5_readTells_13 (by decide) (fun c => ?_) (fun c => ?_)
    · have h := h.1 c
      rw [h]; exact ex_ret (v := none) ⟨dX5_readTells_262, rfl⟩
    · have h := h.2 (Classical.not_not.mp c)
      refine ex_step (pc' := 17) dX5_readTells_16 rfl ?_
      refine ex_geti dX5_readTells_17 wf_RX5_61 (ly_a2 hL) rfl ?_
      refine ex_if (pc' := 262) dX5_readTells_20 (by decide) (fun c => ?_) (fun c => ?_)
      · have h := h.1 c
        rw [h]; exact ex_ret (v := none) ⟨dX5_readTells_262, rfl⟩
      · have h := h.2 c
        refine ex_step (pc' := 24) dX5_readTells_23 rfl ?_
        refine ex_geti dX5_readTells_24 wf_RX5_61 (ly_a2 hL) rfl ?_
        refine ex_tab dX5_readTells_27 (fun c => ?_) (fun k off hk ho hx => ?_)
        · refine ⟨241, by decide, ?_⟩
          have h := h.1 c
          refine ex_step (pc' := 242) dX5_readTells_241 rfl ?_
          refine ex_step (pc' := 243) (st' := [.int 1, .ref 2]) dX5_readTells_242 rfl ?_
          refine ex_step (pc' := 244) dX5_readTells_243 rfl ?_
          refine ex_geti dX5_readTells_244 wf_RX5_110 (ly_a2 hL) rfl ?_
          obtain ⟨I1, hc, h⟩ := h
          refine ex_callV (as := [.int 1, .int (I 2 5)]) (st := []) (ci := 5) dX5_readTells_247 zmX5_fail zl_RX5_113 ziX5_fail zvX5_fail (by decide) (ly_a2 hL) rfl (Nat.le_of_ble_eq_true rfl) (Nat.le_of_ble_eq_true rfl) hc ?_
          exact h
        · have h := h.2
          match k, hk, ho, hx with
          | 0, hk, ho, hx =>
            cases ho
            refine ⟨72, by decide, ?_⟩
            have h := h.1 (Int32.toInt_inj.mp (hx.trans (by decide)))
            refine ex_step (pc' := 73) dX5_readTells_72 rfl ?_
            refine ex_step (pc' := 74) dX5_readTells_73 rfl ?_
            refine ex_geti dX5_readTells_74 wf_RX5_61 (ly_a2 hL) rfl ?_
            obtain ⟨I2, hc, h⟩ := h
            refine ex_callV (as := [.int (I 2 4)]) (st := []) (ci := 5) dX5_readTells_77 zmX5_take zl_RX5_64 ziX5_take zvX5_take (by decide) (ly_a2 hL) rfl (Nat.le_of_ble_eq_true rfl) (Nat.le_of_ble_eq_true rfl) hc ?_
            refine ex_step (pc' := 81) dX5_readTells_80 rfl ?_
            refine ex_getr dX5_readTells_81 wf_RX5_14 (ly_a2 hL) rfl (ly_rtext hL) ?_
            refine ex_step (pc' := 85) dX5_readTells_84 rfl ?_
            refine ex_step (pc' := 86) (st' := [.int 2, .ref 2, .ref u]) dX5_readTells_85 rfl ?_
            refine ex_step (pc' := 88) (st' := [.int 12, .int 2, .ref 2, .ref u]) dX5_readTells_86 rfl ?_
            obtain ⟨v3, I4, hc, h⟩ := h
            refine ex_callV (as := [.int 2, .int 12]) (st := [.ref u]) (ci := 5) dX5_readTells_88 zmX5_takeInt zl_RX5_68 ziX5_takeInt zvX5_takeInt (by decide) (ly_a2 hL) rfl (Nat.le_of_ble_eq_true rfl) (Nat.le_of_ble_eq_true rfl) hc ?_
            refine ex_putiN dX5_readTells_91 (wp_RX5_72 _) (zTx_o (ly_ux hL)) rfl ⟨rfl, rfl⟩ (fun I5 eI5 => ?_)
            have h := h I5 eI5
            refine ex_step (pc' := 95) dX5_readTells_94 rfl ?_
            refine ex_getr dX5_readTells_95 wf_RX5_14 (ly_a2 hL) rfl (ly_rtext hL) ?_
            refine ex_step (pc' := 99) dX5_readTells_98 rfl ?_
            refine ex_step (pc' := 100) (st' := [.int 2, .ref 2, .ref u]) dX5_readTells_99 rfl ?_
            refine ex_step (pc' := 102) (st' := [.int 12, .int 2, .ref 2, .ref u]) dX5_readTells_100 rfl ?_
            obtain ⟨v6, I7, hc, h⟩ := h
            refine ex_callV (as := [.int 2, .int 12]) (st := [.ref u]) (ci := 5) dX5_readTells_102 zmX5_takeInt zl_RX5_68 ziX5_takeInt zvX5_takeInt (by decide) (ly_a2 hL) rfl (Nat.le_of_ble_eq_true rfl) (Nat.le_of_ble_eq_true rfl) hc ?_
            refine ex_putiN dX5_readTells_105 (wp_RX5_75 _) (zTx_o (ly_ux hL)) rfl ⟨rfl, rfl⟩ (fun I8 eI8 => ?_)
            have h := h I8 eI8
            refine ex_step (pc' := 250) dX5_readTells_108 rfl ?_
            exact h
          | 1, hk, ho, hx =>
            cases ho
            refine ⟨111, by decide, ?_⟩
            have h := h.2.1 (Int32.toInt_inj.mp (hx.trans (by decide)))
            refine ex_step (pc' := 112) dX5_readTells_111 rfl ?_
            obtain ⟨I9, J10, hc, h⟩ := h
            refine ex_callV (as := []) (st := []) (ci := 5) dX5_readTells_112 zmX5_readMan zl_RX5_78 ziX5_readMan zvX5_readMan (by decide) (ly_a2 hL) rfl (Nat.le_of_ble_eq_true rfl) (Nat.le_of_ble_eq_true rfl) hc ?_
            refine ex_step (pc' := 250) dX5_readTells_115 rfl ?_
            exact h
          | 2, hk, ho, hx =>
            cases ho
            refine ⟨118, by decide, ?_⟩
            have h := h.2.2.1 (Int32.toInt_inj.mp (hx.trans (by decide)))
            refine ex_step (pc' := 119) dX5_readTells_118 rfl ?_
            refine ex_step (pc' := 120) dX5_readTells_119 rfl ?_
            refine ex_geti dX5_readTells_120 wf_RX5_61 (ly_a2 hL) rfl ?_
            obtain ⟨I11, hc, h⟩ := h
            refine ex_callV (as := [.int (I 2 4)]) (st := []) (ci := 5) dX5_readTells_123 zmX5_take zl_RX5_64 ziX5_take zvX5_take (by decide) (ly_a2 hL) rfl (Nat.le_of_ble_eq_true rfl) (Nat.le_of_ble_eq_true rfl) hc ?_
            refine ex_step (pc' := 127) dX5_readTells_126 rfl ?_
            refine ex_getr dX5_readTells_127 wf_RX5_14 (ly_a2 hL) rfl (ly_rtext hL) ?_
            refine ex_getr dX5_readTells_130 wf_RX5_81 (zTx_o (ly_ux hL)) rfl (zTx_r9 (ly_ux hL)) ?_
            refine ex_step (pc' := 134) dX5_readTells_133 rfl ?_
            obtain ⟨v12, I13, hc, h⟩ := h
            refine ex_callV (as := []) (st := [.ref (u + 8)]) (ci := 5) dX5_readTells_134 zmX5_takeMan zl_RX5_84 ziX5_takeMan zvX5_takeMan (by decide) (ly_a2 hL) rfl (Nat.le_of_ble_eq_true rfl) (Nat.le_of_ble_eq_true rfl) hc ?_
            refine ex_step (pc' := 138) dX5_readTells_137 rfl ?_
            obtain ⟨v14, I15, hc, h⟩ := h
            refine ex_callV (as := []) (st := [.int v12, .ref (u + 8)]) (ci := 5) dX5_readTells_138 zmX5_readLaw zl_RX5_88 ziX5_readLaw zvX5_readLaw (by decide) (ly_a2 hL) rfl (Nat.le_of_ble_eq_true rfl) (Nat.le_of_ble_eq_true rfl) hc ?_
            obtain ⟨I16, eI16⟩ : ∃ q : zI, q = zpt I15 (u + 8) 7 v12 v14 := ⟨_, rfl⟩
            have h := h I16 eI16
            refine ex_callS (as := [.ref (u + 8), .int v12, .int v14]) (st := []) dX5_readTells_141 zmX11_put zl_RX5_91 zsX11_put rfl (Nat.le_of_ble_eq_true rfl) (Nat.le_of_ble_eq_true rfl) (eI16 ▸ (S_put' (by decide) (zTx_a8 (ly_ux hL)))) ?_
            refine ex_step (pc' := 250) dX5_readTells_144 rfl ?_
            exact h
          | 3, hk, ho, hx =>
            cases ho
            refine ⟨147, by decide, ?_⟩
            have h := h.2.2.2.1 (Int32.toInt_inj.mp (hx.trans (by decide)))
            refine ex_step (pc' := 148) dX5_readTells_147 rfl ?_
            refine ex_step (pc' := 149) dX5_readTells_148 rfl ?_
            refine ex_geti dX5_readTells_149 wf_RX5_61 (ly_a2 hL) rfl ?_
            obtain ⟨I17, hc, h⟩ := h
            refine ex_callV (as := [.int (I 2 4)]) (st := []) (ci := 5) dX5_readTells_152 zmX5_take zl_RX5_64 ziX5_take zvX5_take (by decide) (ly_a2 hL) rfl (Nat.le_of_ble_eq_true rfl) (Nat.le_of_ble_eq_true rfl) hc ?_
            refine ex_step (pc' := 156) dX5_readTells_155 rfl ?_
            refine ex_getr dX5_readTells_156 wf_RX5_14 (ly_a2 hL) rfl (ly_rtext hL) ?_
            refine ex_step (pc' := 160) dX5_readTells_159 rfl ?_
            obtain ⟨v18, I19, hc, h⟩ := h
            refine ex_callV (as := []) (st := [.ref u]) (ci := 5) dX5_readTells_160 zmX5_readLaw zl_RX5_88 ziX5_readLaw zvX5_readLaw (by decide) (ly_a2 hL) rfl (Nat.le_of_ble_eq_true rfl) (Nat.le_of_ble_eq_true rfl) hc ?_
            refine ex_putiN dX5_readTells_163 (wp_RX5_95 _) (zTx_o (ly_ux hL)) rfl ⟨rfl, rfl⟩ (fun I20 eI20 => ?_)
            have h := h I20 eI20
            refine ex_step (pc' := 250) dX5_readTells_166 rfl ?_
            exact h
          | 4, hk, ho, hx =>
            cases ho
            refine ⟨169, by decide, ?_⟩
            have h := h.2.2.2.2.1 (Int32.toInt_inj.mp (hx.trans (by decide)))
            refine ex_step (pc' := 170) dX5_readTells_169 rfl ?_
            obtain ⟨I21, hc, h⟩ := h
            refine ex_callV (as := []) (st := []) (ci := 5) dX5_readTells_170 zmX5_readErrand zl_RX5_98 ziX5_readErrand zvX5_readErrand (by decide) (ly_a2 hL) rfl (Nat.le_of_ble_eq_true rfl) (Nat.le_of_ble_eq_true rfl) hc ?_
            refine ex_step (pc' := 250) dX5_readTells_173 rfl ?_
            exact h
          | 5, hk, ho, hx =>
            cases ho
            refine ⟨176, by decide, ?_⟩
            have h := h.2.2.2.2.2.1 (Int32.toInt_inj.mp (hx.trans (by decide)))
            refine ex_step (pc' := 177) dX5_readTells_176 rfl ?_
            obtain ⟨I22, hc, h⟩ := h
            refine ex_callV (as := []) (st := []) (ci := 5) dX5_readTells_177 zmX5_readPillar zl_RX5_101 ziX5_readPillar zvX5_readPillar (by decide) (ly_a2 hL) rfl (Nat.le_of_ble_eq_true rfl) (Nat.le_of_ble_eq_true rfl) hc ?_
            refine ex_step (pc' := 250) dX5_readTells_180 rfl ?_
            exact h
          | 6, hk, ho, hx =>
            cases ho
            refine ⟨183, by decide, ?_⟩
            have h := h.2.2.2.2.2.2.1 (Int32.toInt_inj.mp (hx.trans (by decide)))
            refine ex_step (pc' := 184) dX5_readTells_183 rfl ?_
            refine ex_step (pc' := 185) dX5_readTells_184 rfl ?_
            refine ex_geti dX5_readTells_185 wf_RX5_61 (ly_a2 hL) rfl ?_
            obtain ⟨I23, hc, h⟩ := h
            refine ex_callV (as := [.int (I 2 4)]) (st := []) (ci := 5) dX5_readTells_188 zmX5_take zl_RX5_64 ziX5_take zvX5_take (by decide) (ly_a2 hL) rfl (Nat.le_of_ble_eq_true rfl) (Nat.le_of_ble_eq_true rfl) hc ?_
            refine ex_step (pc' := 192) dX5_readTells_191 rfl ?_
            refine ex_getr dX5_readTells_192 wf_RX5_14 (ly_a2 hL) rfl (ly_rtext hL) ?_
            refine ex_getr dX5_readTells_195 wf_RX5_104 (zTx_o (ly_ux hL)) rfl (zTx_r11 (ly_ux hL)) ?_
            refine ex_step (pc' := 199) dX5_readTells_198 rfl ?_
            obtain ⟨v24, I25, hc, h⟩ := h
            refine ex_callV (as := []) (st := [.ref (u + 10)]) (ci := 5) dX5_readTells_199 zmX5_takeMan zl_RX5_84 ziX5_takeMan zvX5_takeMan (by decide) (ly_a2 hL) rfl (Nat.le_of_ble_eq_true rfl) (Nat.le_of_ble_eq_true rfl) hc ?_
            refine ex_step (pc' := 203) dX5_readTells_202 rfl ?_
            refine ex_step (pc' := 204) (st' := [.int 0, .ref 2, .int v24, .ref (u + 10)]) dX5_readTells_203 rfl ?_
            refine ex_step (pc' := 206) (st' := [.int 9, .int 0, .ref 2, .int v24, .ref (u + 10)]) dX5_readTells_204 rfl ?_
            obtain ⟨v26, I27, hc, h⟩ := h
            refine ex_callV (as := [.int 0, .int 9]) (st := [.int v24, .ref (u + 10)]) (ci := 5) dX5_readTells_206 zmX5_takeInt zl_RX5_68 ziX5_takeInt zvX5_takeInt (by decide) (ly_a2 hL) rfl (Nat.le_of_ble_eq_true rfl) (Nat.le_of_ble_eq_true rfl) hc ?_
            obtain ⟨I28, eI28⟩ : ∃ q : zI, q = zpt I27 (u + 10) 7 v24 v26 := ⟨_, rfl⟩
            have h := h I28 eI28
            refine ex_callS (as := [.ref (u + 10), .int v24, .int v26]) (st := []) dX5_readTells_209 zmX11_put zl_RX5_91 zsX11_put rfl (Nat.le_of_ble_eq_true rfl) (Nat.le_of_ble_eq_true rfl) (eI28 ▸ (S_put' (by decide) (zTx_a10 (ly_ux hL)))) ?_
            refine ex_step (pc' := 250) dX5_readTells_212 rfl ?_
            exact h
          | 7, hk, ho, hx =>
            cases ho
            refine ⟨215, by decide, ?_⟩
            have h := h.2.2.2.2.2.2.2 (Int32.toInt_inj.mp (hx.trans (by decide)))
            refine ex_step (pc' := 216) dX5_readTells_215 rfl ?_
            refine ex_step (pc' := 217) dX5_readTells_216 rfl ?_
            refine ex_geti dX5_readTells_217 wf_RX5_61 (ly_a2 hL) rfl ?_
            obtain ⟨I29, hc, h⟩ := h
            refine ex_callV (as := [.int (I 2 4)]) (st := []) (ci := 5) dX5_readTells_220 zmX5_take zl_RX5_64 ziX5_take zvX5_take (by decide) (ly_a2 hL) rfl (Nat.le_of_ble_eq_true rfl) (Nat.le_of_ble_eq_true rfl) hc ?_
            refine ex_step (pc' := 224) dX5_readTells_223 rfl ?_
            refine ex_getr dX5_readTells_224 wf_RX5_14 (ly_a2 hL) rfl (ly_rtext hL) ?_
            refine ex_step (pc' := 228) dX5_readTells_227 rfl ?_
            refine ex_step (pc' := 229) (st' := [.int 0, .ref 2, .ref u]) dX5_readTells_228 rfl ?_
            refine ex_step (pc' := 232) (st' := [.int 9999, .int 0, .ref 2, .ref u]) dX5_readTells_229 rfl ?_
            obtain ⟨v30, I31, hc, h⟩ := h
            refine ex_callV (as := [.int 0, .int 9999]) (st := [.ref u]) (ci := 5) dX5_readTells_232 zmX5_takeInt zl_RX5_68 ziX5_takeInt zvX5_takeInt (by decide) (ly_a2 hL) rfl (Nat.le_of_ble_eq_true rfl) (Nat.le_of_ble_eq_true rfl) hc ?_
            refine ex_putiN dX5_readTells_235 (wp_RX5_107 _) (zTx_o (ly_ux hL)) rfl ⟨rfl, rfl⟩ (fun I32 eI32 => ?_)
            have h := h I32 eI32
            refine ex_step (pc' := 250) dX5_readTells_238 rfl ?_
            exact h
          | (k + 8), hk, ho, hx => exact absurd hk (by simp)
set_option maxHeartbeats 4000000 in
theorem BX5_readTells_250 {d : Nat} {Z : zZ} {I : zI} {J : zJ} {o : zO} {t u : Nat} (x1 : Int32) (hL : zLY Z t u)  (h : (∃ (I1 : zI), zE (d + 5) kX5_take 0 [some (.ref 2), some (.int 59)] [] Z I J (none, Z, I1, J) ∧ zE (d + 6) kX5_readTells 2 [some (.ref 2), some (.int (x1 + 1))] [] Z I1 J o)) : zE (d + 6) kX5_readTells 250 [some (.ref 2), some (.int x1)] [] Z I J o := by
  refine ex_step (pc' := 251) dX5_readTells_250 rfl ?_
  refine ex_step (pc' := 253) (st' := [.int 59, .ref 2]) dX5_readTells_251 rfl ?_
  obtain ⟨I1, hc, h⟩ := h
  refine ex_callV (as := [.int 59]) (st := []) (ci := 5) dX5_readTells_253 zmX5_take zl_RX5_64 ziX5_take zvX5_take (by decide) (ly_a2 hL) rfl (Nat.le_of_ble_eq_true rfl) (Nat.le_of_ble_eq_true rfl) hc ?_
  refine ex_step (pc' := 259) (ls' := [some (.ref 2), some (.int (x1 + 1))]) dX5_readTells_256 rfl ?_
  refine ex_step (pc' := 2) dX5_readTells_259 rfl ?_
  exact h
set_option maxHeartbeats 4000000 in
theorem BX5_finish_0 {d : Nat} {Z : zZ} {I : zI} {J : zJ} {o : zO} {t u : Nat}  (hL : zLY Z t u)  (h : ((¬ (I 2 6) = 0 → ((¬ (I 2 6) = 0 → ((¬ (I 2 6) = 0 → o = (some (.int (I 2 6)), Z, I, J)) ∧ ((I 2 6) = 0 → (∃ (I1 : zI), zE (d + 2) kX6_measure 0 [some (.ref u), none, none] [] Z I J (none, Z, I1, J) ∧ o = (some (.int (I1 2 6)), Z, I1, J))))) ∧ ((I 2 6) = 0 → (∃ (I2 : zI), zE (d + 2) kX5_findOutside 0 [some (.ref 2), none] [] Z I J (none, Z, I2, J) ∧ ((¬ (I2 2 6) = 0 → o = (some (.int (I2 2 6)), Z, I2, J)) ∧ ((I2 2 6) = 0 → (∃ (I3 : zI), zE (d + 2) kX6_measure 0 [some (.ref u), none, none] [] Z I2 J (none, Z, I3, J) ∧ o = (some (.int (I3 2 6)), Z, I3, J)))))))) ∧ ((I 2 6) = 0 → (((I 2 7) = 0 → ((¬ (I 2 6) = 0 → ((¬ (I 2 6) = 0 → o = (some (.int (I 2 6)), Z, I, J)) ∧ ((I 2 6) = 0 → (∃ (I4 : zI), zE (d + 2) kX6_measure 0 [some (.ref u), none, none] [] Z I J (none, Z, I4, J) ∧ o = (some (.int (I4 2 6)), Z, I4, J))))) ∧ ((I 2 6) = 0 → (∃ (I5 : zI), zE (d + 2) kX5_findOutside 0 [some (.ref 2), none] [] Z I J (none, Z, I5, J) ∧ ((¬ (I5 2 6) = 0 → o = (some (.int (I5 2 6)), Z, I5, J)) ∧ ((I5 2 6) = 0 → (∃ (I6 : zI), zE (d + 2) kX6_measure 0 [some (.ref u), none, none] [] Z I5 J (none, Z, I6, J) ∧ o = (some (.int (I6 2 6)), Z, I6, J)))))))) ∧ (¬ (I 2 7) = 0 → (∃ (I7 : zI), zE (d + 2) kX5_fail 0 [some (.ref 2), some (.int (I 2 7)), some (.int (I 2 8))] [] Z I J (none, Z, I7, J) ∧ ((¬ (I7 2 6) = 0 → ((¬ (I7 2 6) = 0 → o = (some (.int (I7 2 6)), Z, I7, J)) ∧ ((I7 2 6) = 0 → (∃ (I8 : zI), zE (d + 2) kX6_measure 0 [some (.ref u), none, none] [] Z I7 J (none, Z, I8, J) ∧ o = (some (.int (I8 2 6)), Z, I8, J))))) ∧ ((I7 2 6) = 0 → (∃ (I9 : zI), zE (d + 2) kX5_findOutside 0 [some (.ref 2), none] [] Z I7 J (none, Z, I9, J) ∧ ((¬ (I9 2 6) = 0 → o = (some (.int (I9 2 6)), Z, I9, J)) ∧ ((I9 2 6) = 0 → (∃ (I10 : zI), zE (d + 2) kX6_measure 0 [some (.ref u), none, none] [] Z I9 J (none, Z, I10, J) ∧ o = (some (.int (I10 2 6)), Z, I10, J))))))))))))) : zE (d + 3) kX5_finish 0 [some (.ref 2)] [] Z I J o := by
  refine ex_step (pc' := 1) dX5_finish_0 rfl ?_
  refine ex_geti dX5_finish_1 wf_RX5_45 (ly_a2 hL) rfl ?_
  refine ex_if (pc' := 26) dX5_finish_4 (by decide) (fun c => ?_) (fun c => ?_)
  · have h := h.1 c
    refine ex_step (pc' := 27) dX5_finish_26 rfl ?_
    refine ex_geti dX5_finish_27 wf_RX5_45 (ly_a2 hL) rfl ?_
    refine ex_if (pc' := 37) dX5_finish_30 (by decide) (fun c => ?_) (fun c => ?_)
    · have h := h.1 c
      refine ex_step (pc' := 38) dX5_finish_37 rfl ?_
      refine ex_geti dX5_finish_38 wf_RX5_45 (ly_a2 hL) rfl ?_
      refine ex_if (pc' := 51) dX5_finish_41 (by decide) (fun c => ?_) (fun c => ?_)
      · have h := h.1 c
        refine ex_step (pc' := 52) dX5_finish_51 rfl ?_
        refine ex_geti dX5_finish_52 wf_RX5_45 (ly_a2 hL) rfl ?_
        rw [h]; exact ex_ret (v := some (.int (I 2 6))) ⟨dX5_finish_55, _, rfl, rfl⟩
      · have h := h.2 (Classical.not_not.mp c)
        refine ex_step (pc' := 45) dX5_finish_44 rfl ?_
        refine ex_getr dX5_finish_45 wf_RX5_14 (ly_a2 hL) rfl (ly_rtext hL) ?_
        obtain ⟨I1, hc, h⟩ := h
        refine ex_callV (as := []) (st := []) (ci := 6) dX5_finish_48 zmX6_measure zl_RX5_123 ziX6_measure zvX6_measure (by decide) (zTx_o (ly_ux hL)) rfl (Nat.le_of_ble_eq_true rfl) (Nat.le_of_ble_eq_true rfl) hc ?_
        refine ex_step (pc' := 52) dX5_finish_51 rfl ?_
        refine ex_geti dX5_finish_52 wf_RX5_45 (ly_a2 hL) rfl ?_
        rw [h]; exact ex_ret (v := some (.int (I1 2 6))) ⟨dX5_finish_55, _, rfl, rfl⟩
    · have h := h.2 (Classical.not_not.mp c)
      refine ex_step (pc' := 34) dX5_finish_33 rfl ?_
      obtain ⟨I2, hc, h⟩ := h
      refine ex_callV (as := []) (st := []) (ci := 5) dX5_finish_34 zmX5_findOutside zl_RX5_120 ziX5_findOutside zvX5_findOutside (by decide) (ly_a2 hL) rfl (Nat.le_of_ble_eq_true rfl) (Nat.le_of_ble_eq_true rfl) hc ?_
      refine ex_step (pc' := 38) dX5_finish_37 rfl ?_
      refine ex_geti dX5_finish_38 wf_RX5_45 (ly_a2 hL) rfl ?_
      refine ex_if (pc' := 51) dX5_finish_41 (by decide) (fun c => ?_) (fun c => ?_)
      · have h := h.1 c
        refine ex_step (pc' := 52) dX5_finish_51 rfl ?_
        refine ex_geti dX5_finish_52 wf_RX5_45 (ly_a2 hL) rfl ?_
        rw [h]; exact ex_ret (v := some (.int (I2 2 6))) ⟨dX5_finish_55, _, rfl, rfl⟩
      · have h := h.2 (Classical.not_not.mp c)
        refine ex_step (pc' := 45) dX5_finish_44 rfl ?_
        refine ex_getr dX5_finish_45 wf_RX5_14 (ly_a2 hL) rfl (ly_rtext hL) ?_
        obtain ⟨I3, hc, h⟩ := h
        refine ex_callV (as := []) (st := []) (ci := 6) dX5_finish_48 zmX6_measure zl_RX5_123 ziX6_measure zvX6_measure (by decide) (zTx_o (ly_ux hL)) rfl (Nat.le_of_ble_eq_true rfl) (Nat.le_of_ble_eq_true rfl) hc ?_
        refine ex_step (pc' := 52) dX5_finish_51 rfl ?_
        refine ex_geti dX5_finish_52 wf_RX5_45 (ly_a2 hL) rfl ?_
        rw [h]; exact ex_ret (v := some (.int (I3 2 6))) ⟨dX5_finish_55, _, rfl, rfl⟩
  · have h := h.2 (Classical.not_not.mp c)
    refine ex_step (pc' := 8) dX5_finish_7 rfl ?_
    refine ex_geti dX5_finish_8 wf_RX5_49 (ly_a2 hL) rfl ?_
    refine ex_if (pc' := 26) dX5_finish_11 (by decide) (fun c => ?_) (fun c => ?_)
    · have h := h.1 c
      refine ex_step (pc' := 27) dX5_finish_26 rfl ?_
      refine ex_geti dX5_finish_27 wf_RX5_45 (ly_a2 hL) rfl ?_
      refine ex_if (pc' := 37) dX5_finish_30 (by decide) (fun c => ?_) (fun c => ?_)
      · have h := h.1 c
        refine ex_step (pc' := 38) dX5_finish_37 rfl ?_
        refine ex_geti dX5_finish_38 wf_RX5_45 (ly_a2 hL) rfl ?_
        refine ex_if (pc' := 51) dX5_finish_41 (by decide) (fun c => ?_) (fun c => ?_)
        · have h := h.1 c
          refine ex_step (pc' := 52) dX5_finish_51 rfl ?_
          refine ex_geti dX5_finish_52 wf_RX5_45 (ly_a2 hL) rfl ?_
          rw [h]; exact ex_ret (v := some (.int (I 2 6))) ⟨dX5_finish_55, _, rfl, rfl⟩
        · have h := h.2 (Classical.not_not.mp c)
          refine ex_step (pc' := 45) dX5_finish_44 rfl ?_
          refine ex_getr dX5_finish_45 wf_RX5_14 (ly_a2 hL) rfl (ly_rtext hL) ?_
          obtain ⟨I4, hc, h⟩ := h
          refine ex_callV (as := []) (st := []) (ci := 6) dX5_finish_48 zmX6_measure zl_RX5_123 ziX6_measure zvX6_measure (by decide) (zTx_o (ly_ux hL)) rfl (Nat.le_of_ble_eq_true rfl) (Nat.le_of_ble_eq_true rfl) hc ?_
          refine ex_step (pc' := 52) dX5_finish_51 rfl ?_
          refine ex_geti dX5_finish_52 wf_RX5_45 (ly_a2 hL) rfl ?_
          rw [h]; exact ex_ret (v := some (.int (I4 2 6))) ⟨dX5_finish_55, _, rfl, rfl⟩
      · have h := h.2 (Classical.not_not.mp c)
        refine ex_step (pc' := 34) dX5_finish_33 rfl ?_
        obtain ⟨I5, hc, h⟩ := h
        refine ex_callV (as := []) (st := []) (ci := 5) dX5_finish_34 zmX5_findOutside zl_RX5_120 ziX5_findOutside zvX5_findOutside (by decide) (ly_a2 hL) rfl (Nat.le_of_ble_eq_true rfl) (Nat.le_of_ble_eq_true rfl) hc ?_
        refine ex_step (pc' := 38) dX5_finish_37 rfl ?_
        refine ex_geti dX5_finish_38 wf_RX5_45 (ly_a2 hL) rfl ?_
        refine ex_if (pc' := 51) dX5_finish_41 (by decide) (fun c => ?_) (fun c => ?_)
        · have h := h.1 c
          refine ex_step (pc' := 52) dX5_finish_51 rfl ?_
          refine ex_geti dX5_finish_52 wf_RX5_45 (ly_a2 hL) rfl ?_
          rw [h]; exact ex_ret (v := some (.int (I5 2 6))) ⟨dX5_finish_55, _, rfl, rfl⟩
        · have h := h.2 (Classical.not_not.mp c)
          refine ex_step (pc' := 45) dX5_finish_44 rfl ?_
          refine ex_getr dX5_finish_45 wf_RX5_14 (ly_a2 hL) rfl (ly_rtext hL) ?_
          obtain ⟨I6, hc, h⟩ := h
          refine ex_callV (as := []) (st := []) (ci := 6) dX5_finish_48 zmX6_measure zl_RX5_123 ziX6_measure zvX6_measure (by decide) (zTx_o (ly_ux hL)) rfl (Nat.le_of_ble_eq_true rfl) (Nat.le_of_ble_eq_true rfl) hc ?_
          refine ex_step (pc' := 52) dX5_finish_51 rfl ?_
          refine ex_geti dX5_finish_52 wf_RX5_45 (ly_a2 hL) rfl ?_
          rw [h]; exact ex_ret (v := some (.int (I6 2 6))) ⟨dX5_finish_55, _, rfl, rfl⟩
    · have h := h.2 c
      refine ex_step (pc' := 15) dX5_finish_14 rfl ?_
      refine ex_step (pc' := 16) dX5_finish_15 rfl ?_
      refine ex_geti dX5_finish_16 wf_RX5_49 (ly_a2 hL) rfl ?_
      refine ex_step (pc' := 20) dX5_finish_19 rfl ?_
      refine ex_geti dX5_finish_20 wf_RX5_117 (ly_a2 hL) rfl ?_
      obtain ⟨I7, hc, h⟩ := h
      refine ex_callV (as := [.int (I 2 7), .int (I 2 8)]) (st := []) (ci := 5) dX5_finish_23 zmX5_fail zl_RX5_113 ziX5_fail zvX5_fail (by decide) (ly_a2 hL) rfl (Nat.le_of_ble_eq_true rfl) (Nat.le_of_ble_eq_true rfl) hc ?_
      refine ex_step (pc' := 27) dX5_finish_26 rfl ?_
      refine ex_geti dX5_finish_27 wf_RX5_45 (ly_a2 hL) rfl ?_
      refine ex_if (pc' := 37) dX5_finish_30 (by decide) (fun c => ?_) (fun c => ?_)
      · have h := h.1 c
        refine ex_step (pc' := 38) dX5_finish_37 rfl ?_
        refine ex_geti dX5_finish_38 wf_RX5_45 (ly_a2 hL) rfl ?_
        refine ex_if (pc' := 51) dX5_finish_41 (by decide) (fun c => ?_) (fun c => ?_)
        · have h := h.1 c
          refine ex_step (pc' := 52) dX5_finish_51 rfl ?_
          refine ex_geti dX5_finish_52 wf_RX5_45 (ly_a2 hL) rfl ?_
          rw [h]; exact ex_ret (v := some (.int (I7 2 6))) ⟨dX5_finish_55, _, rfl, rfl⟩
        · have h := h.2 (Classical.not_not.mp c)
          refine ex_step (pc' := 45) dX5_finish_44 rfl ?_
          refine ex_getr dX5_finish_45 wf_RX5_14 (ly_a2 hL) rfl (ly_rtext hL) ?_
          obtain ⟨I8, hc, h⟩ := h
          refine ex_callV (as := []) (st := []) (ci := 6) dX5_finish_48 zmX6_measure zl_RX5_123 ziX6_measure zvX6_measure (by decide) (zTx_o (ly_ux hL)) rfl (Nat.le_of_ble_eq_true rfl) (Nat.le_of_ble_eq_true rfl) hc ?_
          refine ex_step (pc' := 52) dX5_finish_51 rfl ?_
          refine ex_geti dX5_finish_52 wf_RX5_45 (ly_a2 hL) rfl ?_
          rw [h]; exact ex_ret (v := some (.int (I8 2 6))) ⟨dX5_finish_55, _, rfl, rfl⟩
      · have h := h.2 (Classical.not_not.mp c)
        refine ex_step (pc' := 34) dX5_finish_33 rfl ?_
        obtain ⟨I9, hc, h⟩ := h
        refine ex_callV (as := []) (st := []) (ci := 5) dX5_finish_34 zmX5_findOutside zl_RX5_120 ziX5_findOutside zvX5_findOutside (by decide) (ly_a2 hL) rfl (Nat.le_of_ble_eq_true rfl) (Nat.le_of_ble_eq_true rfl) hc ?_
        refine ex_step (pc' := 38) dX5_finish_37 rfl ?_
        refine ex_geti dX5_finish_38 wf_RX5_45 (ly_a2 hL) rfl ?_
        refine ex_if (pc' := 51) dX5_finish_41 (by decide) (fun c => ?_) (fun c => ?_)
        · have h := h.1 c
          refine ex_step (pc' := 52) dX5_finish_51 rfl ?_
          refine ex_geti dX5_finish_52 wf_RX5_45 (ly_a2 hL) rfl ?_
          rw [h]; exact ex_ret (v := some (.int (I9 2 6))) ⟨dX5_finish_55, _, rfl, rfl⟩
        · have h := h.2 (Classical.not_not.mp c)
          refine ex_step (pc' := 45) dX5_finish_44 rfl ?_
          refine ex_getr dX5_finish_45 wf_RX5_14 (ly_a2 hL) rfl (ly_rtext hL) ?_
          obtain ⟨I10, hc, h⟩ := h
          refine ex_callV (as := []) (st := []) (ci := 6) dX5_finish_48 zmX6_measure zl_RX5_123 ziX6_measure zvX6_measure (by decide) (zTx_o (ly_ux hL)) rfl (Nat.le_of_ble_eq_true rfl) (Nat.le_of_ble_eq_true rfl) hc ?_
          refine ex_step (pc' := 52) dX5_finish_51 rfl ?_
          refine ex_geti dX5_finish_52 wf_RX5_45 (ly_a2 hL) rfl ?_
          rw [h]; exact ex_ret (v := some (.int (I10 2 6))) ⟨dX5_finish_55, _, rfl, rfl⟩
set_option maxHeartbeats 4000000 in
theorem BX5_findOutside_0 {d : Nat} {Z : zZ} {I : zI} {J : zJ} {o : zO} {t u : Nat}  (hL : zLY Z t u)  (h : zE (d + 1) kX5_findOutside 2 [some (.ref 2), some (.int 0)] [] Z I J o) : zE (d + 1) kX5_findOutside 0 [some (.ref 2), none] [] Z I J o := by
  refine ex_step (pc' := 1) (st' := [.int 0]) dX5_findOutside_0 rfl ?_
  refine ex_step (pc' := 2) (ls' := [some (.ref 2), some (.int 0)]) dX5_findOutside_1 rfl ?_
  exact h
set_option maxHeartbeats 4000000 in
theorem BX5_findOutside_2 {d : Nat} {Z : zZ} {I : zI} {J : zJ} {o : zO} {t u : Nat} (x1 : Int32) (hL : zLY Z t u)  (h : (((I 2 12) ≤ x1 → o = (none, Z, I, J)) ∧ (¬ (I 2 12) ≤ x1 → (∃ (v1 : Int32), zE d kX6_hasCorner 0 [some (.ref u), some (.int (zat I 27 400 x1)), some (.int (zat I 28 400 x1))] [] Z I J (some (.int v1), Z, I, J) ∧ ((¬ v1 = 0 → zE (d + 1) kX5_findOutside 2 [some (.ref 2), some (.int (x1 + 1))] [] Z I J o) ∧ (v1 = 0 → (∃ (I2 : zI), zE d kX5_fail 0 [some (.ref 2), some (.int 6), some (.int (zat I 26 400 x1))] [] Z I J (none, Z, I2, J) ∧ zE (d + 1) kX5_findOutside 2 [some (.ref 2), some (.int (x1 + 1))] [] Z I2 J o))))))) : zE (d + 1) kX5_findOutside 2 [some (.ref 2), some (.int x1)] [] Z I J o := by
  refine ex_step (pc' := 3) dX5_findOutside_2 rfl ?_
  refine ex_step (pc' := 4) dX5_findOutside_3 rfl ?_
  refine ex_geti dX5_findOutside_4 wf_RX5_52 (ly_a2 hL) rfl ?_
  refine ex_icmp (pc' := 56) dX5_findOutside_7 (by decide) (fun c => ?_) (fun c => ?_)
  · have h := h.1 c
    rw [h]; exact ex_ret (v := none) ⟨dX5_findOutside_56, rfl⟩
  · have h := h.2 c
    refine ex_step (pc' := 11) dX5_findOutside_10 rfl ?_
    refine ex_getr dX5_findOutside_11 wf_RX5_14 (ly_a2 hL) rfl (ly_rtext hL) ?_
    refine ex_step (pc' := 15) dX5_findOutside_14 rfl ?_
    refine ex_getr dX5_findOutside_15 wf_RX5_29 (ly_a2 hL) rfl (ly_r2_10 hL) ?_
    refine ex_step (pc' := 19) dX5_findOutside_18 rfl ?_
    refine ex_callS (as := [.ref 27, .int x1]) (st := [.ref u]) dX5_findOutside_19 zmX11_at zl_RX5_126 zsX11_at rfl (Nat.le_of_ble_eq_true rfl) (Nat.le_of_ble_eq_true rfl) (S_at' (by decide) (ly_a27 hL)) ?_
    refine ex_step (pc' := 23) dX5_findOutside_22 rfl ?_
    refine ex_getr dX5_findOutside_23 wf_RX5_32 (ly_a2 hL) rfl (ly_r2_11 hL) ?_
    refine ex_step (pc' := 27) dX5_findOutside_26 rfl ?_
    refine ex_callS (as := [.ref 28, .int x1]) (st := [.int (zat I 27 400 x1), .ref u]) dX5_findOutside_27 zmX11_at zl_RX5_126 zsX11_at rfl (Nat.le_of_ble_eq_true rfl) (Nat.le_of_ble_eq_true rfl) (S_at' (by decide) (ly_a28 hL)) ?_
    obtain ⟨v1, hc, h⟩ := h
    refine ex_callV (as := [.int (zat I 27 400 x1), .int (zat I 28 400 x1)]) (st := []) (ci := 6) dX5_findOutside_30 zmX6_hasCorner zl_RX5_130 ziX6_hasCorner zvX6_hasCorner (by decide) (zTx_o (ly_ux hL)) rfl (Nat.le_of_ble_eq_true rfl) (Nat.le_of_ble_eq_true rfl) hc ?_
    refine ex_if (pc' := 50) dX5_findOutside_33 (by decide) (fun c => ?_) (fun c => ?_)
    · have h := h.1 c
      refine ex_step (pc' := 53) (ls' := [some (.ref 2), some (.int (x1 + 1))]) dX5_findOutside_50 rfl ?_
      refine ex_step (pc' := 2) dX5_findOutside_53 rfl ?_
      exact h
    · have h := h.2 (Classical.not_not.mp c)
      refine ex_step (pc' := 37) dX5_findOutside_36 rfl ?_
      refine ex_step (pc' := 39) (st' := [.int 6, .ref 2]) dX5_findOutside_37 rfl ?_
      refine ex_step (pc' := 40) dX5_findOutside_39 rfl ?_
      refine ex_getr dX5_findOutside_40 wf_RX5_25 (ly_a2 hL) rfl (ly_r2_9 hL) ?_
      refine ex_step (pc' := 44) dX5_findOutside_43 rfl ?_
      refine ex_callS (as := [.ref 26, .int x1]) (st := [.int 6, .ref 2]) dX5_findOutside_44 zmX11_at zl_RX5_126 zsX11_at rfl (Nat.le_of_ble_eq_true rfl) (Nat.le_of_ble_eq_true rfl) (S_at' (by decide) (ly_a26 hL)) ?_
      obtain ⟨I2, hc, h⟩ := h
      refine ex_callV (as := [.int 6, .int (zat I 26 400 x1)]) (st := []) (ci := 5) dX5_findOutside_47 zmX5_fail zl_RX5_113 ziX5_fail zvX5_fail (by decide) (ly_a2 hL) rfl (Nat.le_of_ble_eq_true rfl) (Nat.le_of_ble_eq_true rfl) hc ?_
      refine ex_step (pc' := 53) (ls' := [some (.ref 2), some (.int (x1 + 1))]) dX5_findOutside_50 rfl ?_
      refine ex_step (pc' := 2) dX5_findOutside_53 rfl ?_
      exact h
set_option maxHeartbeats 4000000 in
theorem BX5_look_0 {d : Nat} {Z : zZ} {I : zI} {J : zJ} {o : zO} {t u : Nat}  (hL : zLY Z t u)  (h : (∀ I1 : zI, I1 = zu I 2 4 (zat I 21 402 (I 2 3)) → (∀ I2 : zI, I2 = zu I1 2 5 (zat I1 22 402 (I1 2 3)) → o = (none, Z, I2, J)))) : zE (d + 1) kX5_look 0 [some (.ref 2)] [] Z I J o := by
  refine ex_step (pc' := 1) dX5_look_0 rfl ?_
  refine ex_step (pc' := 2) dX5_look_1 rfl ?_
  refine ex_getr dX5_look_2 wf_RX5_21 (ly_a2 hL) rfl (ly_r2_2 hL) ?_
  refine ex_getr dX5_look_5 wf_RX5_134 (ly_a20 hL) rfl (ly_r20_0 hL) ?_
  refine ex_step (pc' := 9) dX5_look_8 rfl ?_
  refine ex_geti dX5_look_9 wf_RX5_55 (ly_a2 hL) rfl ?_
  refine ex_callS (as := [.ref 21, .int (I 2 3)]) (st := [.ref 2]) dX5_look_12 zmX11_at zl_RX5_126 zsX11_at rfl (Nat.le_of_ble_eq_true rfl) (Nat.le_of_ble_eq_true rfl) (S_at' (by decide) (ly_a21 hL)) ?_
  refine ex_putiN dX5_look_15 (wp_RX5_61 _) (ly_a2 hL) rfl ⟨rfl, rfl⟩ (fun I1 eI1 => ?_)
  have h := h I1 eI1
  refine ex_step (pc' := 19) dX5_look_18 rfl ?_
  refine ex_step (pc' := 20) dX5_look_19 rfl ?_
  refine ex_getr dX5_look_20 wf_RX5_21 (ly_a2 hL) rfl (ly_r2_2 hL) ?_
  refine ex_getr dX5_look_23 wf_RX5_137 (ly_a20 hL) rfl (ly_r20_1 hL) ?_
  refine ex_step (pc' := 27) dX5_look_26 rfl ?_
  refine ex_geti dX5_look_27 wf_RX5_55 (ly_a2 hL) rfl ?_
  refine ex_callS (as := [.ref 22, .int (I1 2 3)]) (st := [.ref 2]) dX5_look_30 zmX11_at zl_RX5_126 zsX11_at rfl (Nat.le_of_ble_eq_true rfl) (Nat.le_of_ble_eq_true rfl) (S_at' (by decide) (ly_a22 hL)) ?_
  refine ex_putiN dX5_look_33 (wp_RX5_110 _) (ly_a2 hL) rfl ⟨rfl, rfl⟩ (fun I2 eI2 => ?_)
  have h := h I2 eI2
  rw [h]; exact ex_ret (v := none) ⟨dX5_look_36, rfl⟩
set_option maxHeartbeats 4000000 in
theorem BX5_fail_0 {d : Nat} {Z : zZ} {I : zI} {J : zJ} {o : zO} {t u : Nat} (x1 : Int32) (x2 : Int32) (hL : zLY Z t u)  (h : ((¬ (I 2 6) = 0 → o = (none, Z, I, J)) ∧ ((I 2 6) = 0 → (∀ I1 : zI, I1 = zu I 2 6 x1 → (∀ I2 : zI, I2 = zu I1 2 1 x2 → o = (none, Z, I2, J)))))) : zE d kX5_fail 0 [some (.ref 2), some (.int x1), some (.int x2)] [] Z I J o := by
  refine ex_step (pc' := 1) dX5_fail_0 rfl ?_
  refine ex_geti dX5_fail_1 wf_RX5_45 (ly_a2 hL) rfl ?_
  refine ex_if (pc' := 17) dX5_fail_4 (by decide) (fun c => ?_) (fun c => ?_)
  · have h := h.1 c
    rw [h]; exact ex_ret (v := none) ⟨dX5_fail_17, rfl⟩
  · have h := h.2 (Classical.not_not.mp c)
    refine ex_step (pc' := 8) dX5_fail_7 rfl ?_
    refine ex_step (pc' := 9) dX5_fail_8 rfl ?_
    refine ex_putiN dX5_fail_9 (wp_RX5_45 _) (ly_a2 hL) rfl ⟨rfl, rfl⟩ (fun I1 eI1 => ?_)
    have h := h I1 eI1
    refine ex_step (pc' := 13) dX5_fail_12 rfl ?_
    refine ex_step (pc' := 14) dX5_fail_13 rfl ?_
    refine ex_putiN dX5_fail_14 (wp_RX5_140 _) (ly_a2 hL) rfl ⟨rfl, rfl⟩ (fun I2 eI2 => ?_)
    have h := h I2 eI2
    rw [h]; exact ex_ret (v := none) ⟨dX5_fail_17, rfl⟩
set_option maxHeartbeats 4000000 in
theorem BX5_failLater_0 {d : Nat} {Z : zZ} {I : zI} {J : zJ} {o : zO} {t u : Nat} (x1 : Int32) (x2 : Int32) (hL : zLY Z t u)  (h : ((¬ (I 2 6) = 0 → o = (none, Z, I, J)) ∧ ((I 2 6) = 0 → ((¬ (I 2 7) = 0 → o = (none, Z, I, J)) ∧ ((I 2 7) = 0 → (∀ I1 : zI, I1 = zu I 2 7 x1 → (∀ I2 : zI, I2 = zu I1 2 8 x2 → o = (none, Z, I2, J)))))))) : zE d kX5_failLater 0 [some (.ref 2), some (.int x1), some (.int x2)] [] Z I J o := by
  refine ex_step (pc' := 1) dX5_failLater_0 rfl ?_
  refine ex_geti dX5_failLater_1 wf_RX5_45 (ly_a2 hL) rfl ?_
  refine ex_if (pc' := 24) dX5_failLater_4 (by decide) (fun c => ?_) (fun c => ?_)
  · have h := h.1 c
    rw [h]; exact ex_ret (v := none) ⟨dX5_failLater_24, rfl⟩
  · have h := h.2 (Classical.not_not.mp c)
    refine ex_step (pc' := 8) dX5_failLater_7 rfl ?_
    refine ex_geti dX5_failLater_8 wf_RX5_49 (ly_a2 hL) rfl ?_
    refine ex_if (pc' := 24) dX5_failLater_11 (by decide) (fun c => ?_) (fun c => ?_)
    · have h := h.1 c
      rw [h]; exact ex_ret (v := none) ⟨dX5_failLater_24, rfl⟩
    · have h := h.2 (Classical.not_not.mp c)
      refine ex_step (pc' := 15) dX5_failLater_14 rfl ?_
      refine ex_step (pc' := 16) dX5_failLater_15 rfl ?_
      refine ex_putiN dX5_failLater_16 (wp_RX5_49 _) (ly_a2 hL) rfl ⟨rfl, rfl⟩ (fun I1 eI1 => ?_)
      have h := h I1 eI1
      refine ex_step (pc' := 20) dX5_failLater_19 rfl ?_
      refine ex_step (pc' := 21) dX5_failLater_20 rfl ?_
      refine ex_putiN dX5_failLater_21 (wp_RX5_117 _) (ly_a2 hL) rfl ⟨rfl, rfl⟩ (fun I2 eI2 => ?_)
      have h := h I2 eI2
      rw [h]; exact ex_ret (v := none) ⟨dX5_failLater_24, rfl⟩
set_option maxHeartbeats 4000000 in
theorem BX5_take_0 {d : Nat} {Z : zZ} {I : zI} {J : zJ} {o : zO} {t u : Nat} (x1 : Int32) (hL : zLY Z t u)  (h : (((I 2 4) = x1 → (((I 2 3) < 400 → ((¬ (I 2 6) = 0 → o = (none, Z, I, J)) ∧ ((I 2 6) = 0 → (∀ I1 : zI, I1 = zu I 2 3 ((I 2 3) + 1) → (∃ (I2 : zI), zE (d + 1) kX5_look 0 [some (.ref 2)] [] Z I1 J (none, Z, I2, J) ∧ o = (none, Z, I2, J)))))) ∧ (¬ (I 2 3) < 400 → (∃ (I3 : zI), zE (d + 1) kX5_fail 0 [some (.ref 2), some (.int 2), some (.int (I 2 5))] [] Z I J (none, Z, I3, J) ∧ o = (none, Z, I3, J))))) ∧ (¬ (I 2 4) = x1 → (∃ (I4 : zI), zE (d + 1) kX5_fail 0 [some (.ref 2), some (.int 1), some (.int (I 2 5))] [] Z I J (none, Z, I4, J) ∧ o = (none, Z, I4, J))))) : zE (d + 2) kX5_take 0 [some (.ref 2), some (.int x1)] [] Z I J o := by
  refine ex_step (pc' := 1) dX5_take_0 rfl ?_
  refine ex_geti dX5_take_1 wf_RX5_61 (ly_a2 hL) rfl ?_
  refine ex_step (pc' := 5) dX5_take_4 rfl ?_
  refine ex_icmp (pc' := 20) dX5_take_5 (by decide) (fun c => ?_) (fun c => ?_)
  · have h := h.1 c
    refine ex_step (pc' := 21) dX5_take_20 rfl ?_
    refine ex_geti dX5_take_21 wf_RX5_55 (ly_a2 hL) rfl ?_
    refine ex_step (pc' := 27) (st' := [.int 400, .int (I 2 3)]) dX5_take_24 rfl ?_
    refine ex_icmp (pc' := 42) dX5_take_27 (by decide) (fun c => ?_) (fun c => ?_)
    · have h := h.1 c
      refine ex_step (pc' := 43) dX5_take_42 rfl ?_
      refine ex_geti dX5_take_43 wf_RX5_45 (ly_a2 hL) rfl ?_
      refine ex_if (pc' := 63) dX5_take_46 (by decide) (fun c => ?_) (fun c => ?_)
      · have h := h.1 c
        rw [h]; exact ex_ret (v := none) ⟨dX5_take_63, rfl⟩
      · have h := h.2 (Classical.not_not.mp c)
        refine ex_step (pc' := 50) dX5_take_49 rfl ?_
        refine ex_step (pc' := 51) dX5_take_50 rfl ?_
        refine ex_geti dX5_take_51 wf_RX5_55 (ly_a2 hL) rfl ?_
        refine ex_step (pc' := 55) (st' := [.int 1, .int (I 2 3), .ref 2]) dX5_take_54 rfl ?_
        refine ex_step (pc' := 56) dX5_take_55 rfl ?_
        refine ex_putiN dX5_take_56 (wp_RX5_55 _) (ly_a2 hL) rfl ⟨rfl, rfl⟩ (fun I1 eI1 => ?_)
        have h := h I1 eI1
        refine ex_step (pc' := 60) dX5_take_59 rfl ?_
        obtain ⟨I2, hc, h⟩ := h
        refine ex_callV (as := []) (st := []) (ci := 5) dX5_take_60 zmX5_look zl_RX5_58 ziX5_look zvX5_look (by decide) (ly_a2 hL) rfl (Nat.le_of_ble_eq_true rfl) (Nat.le_of_ble_eq_true rfl) hc ?_
        rw [h]; exact ex_ret (v := none) ⟨dX5_take_63, rfl⟩
    · have h := h.2 c
      refine ex_step (pc' := 31) dX5_take_30 rfl ?_
      refine ex_step (pc' := 32) (st' := [.int 2, .ref 2]) dX5_take_31 rfl ?_
      refine ex_step (pc' := 33) dX5_take_32 rfl ?_
      refine ex_geti dX5_take_33 wf_RX5_110 (ly_a2 hL) rfl ?_
      obtain ⟨I3, hc, h⟩ := h
      refine ex_callV (as := [.int 2, .int (I 2 5)]) (st := []) (ci := 5) dX5_take_36 zmX5_fail zl_RX5_113 ziX5_fail zvX5_fail (by decide) (ly_a2 hL) rfl (Nat.le_of_ble_eq_true rfl) (Nat.le_of_ble_eq_true rfl) hc ?_
      refine ex_step (pc' := 63) dX5_take_39 rfl ?_
      rw [h]; exact ex_ret (v := none) ⟨dX5_take_63, rfl⟩
  · have h := h.2 c
    refine ex_step (pc' := 9) dX5_take_8 rfl ?_
    refine ex_step (pc' := 10) (st' := [.int 1, .ref 2]) dX5_take_9 rfl ?_
    refine ex_step (pc' := 11) dX5_take_10 rfl ?_
    refine ex_geti dX5_take_11 wf_RX5_110 (ly_a2 hL) rfl ?_
    obtain ⟨I4, hc, h⟩ := h
    refine ex_callV (as := [.int 1, .int (I 2 5)]) (st := []) (ci := 5) dX5_take_14 zmX5_fail zl_RX5_113 ziX5_fail zvX5_fail (by decide) (ly_a2 hL) rfl (Nat.le_of_ble_eq_true rfl) (Nat.le_of_ble_eq_true rfl) hc ?_
    refine ex_step (pc' := 63) dX5_take_17 rfl ?_
    rw [h]; exact ex_ret (v := none) ⟨dX5_take_63, rfl⟩
set_option maxHeartbeats 4000000 in
theorem BX5_takeInt_0 {d : Nat} {Z : zZ} {I : zI} {J : zJ} {o : zO} {t u : Nat} (x1 : Int32) (x2 : Int32) (hL : zLY Z t u)  (h : (∃ (I1 : zI), zE (d + 2) kX5_take 0 [some (.ref 2), some (.int 3)] [] Z I J (none, Z, I1, J) ∧ (((zat I 23 402 (I 2 3)) < x1 → (∃ (I2 : zI), zE (d + 2) kX5_failLater 0 [some (.ref 2), some (.int 5), some (.int (I 2 5))] [] Z I1 J (none, Z, I2, J) ∧ o = (some (.int (zat I 23 402 (I 2 3))), Z, I2, J))) ∧ (¬ (zat I 23 402 (I 2 3)) < x1 → (((zat I 23 402 (I 2 3)) ≤ x2 → o = (some (.int (zat I 23 402 (I 2 3))), Z, I1, J)) ∧ (¬ (zat I 23 402 (I 2 3)) ≤ x2 → (∃ (I3 : zI), zE (d + 2) kX5_failLater 0 [some (.ref 2), some (.int 5), some (.int (I 2 5))] [] Z I1 J (none, Z, I3, J) ∧ o = (some (.int (zat I 23 402 (I 2 3))), Z, I3, J)))))))) : zE (d + 3) kX5_takeInt 0 [some (.ref 2), some (.int x1), some (.int x2), none, none] [] Z I J o := by
  refine ex_step (pc' := 1) dX5_takeInt_0 rfl ?_
  refine ex_geti dX5_takeInt_1 wf_RX5_110 (ly_a2 hL) rfl ?_
  refine ex_step (pc' := 5) (ls' := [some (.ref 2), some (.int x1), some (.int x2), some (.int (I 2 5)), none]) dX5_takeInt_4 rfl ?_
  refine ex_step (pc' := 6) dX5_takeInt_5 rfl ?_
  refine ex_getr dX5_takeInt_6 wf_RX5_21 (ly_a2 hL) rfl (ly_r2_2 hL) ?_
  refine ex_getr dX5_takeInt_9 wf_RX5_143 (ly_a20 hL) rfl (ly_r20_2 hL) ?_
  refine ex_step (pc' := 13) dX5_takeInt_12 rfl ?_
  refine ex_geti dX5_takeInt_13 wf_RX5_55 (ly_a2 hL) rfl ?_
  refine ex_callS (as := [.ref 23, .int (I 2 3)]) (st := []) dX5_takeInt_16 zmX11_at zl_RX5_126 zsX11_at rfl (Nat.le_of_ble_eq_true rfl) (Nat.le_of_ble_eq_true rfl) (S_at' (by decide) (ly_a23 hL)) ?_
  refine ex_step (pc' := 21) (ls' := [some (.ref 2), some (.int x1), some (.int x2), some (.int (I 2 5)), some (.int (zat I 23 402 (I 2 3)))]) dX5_takeInt_19 rfl ?_
  refine ex_step (pc' := 22) dX5_takeInt_21 rfl ?_
  refine ex_step (pc' := 23) (st' := [.int 3, .ref 2]) dX5_takeInt_22 rfl ?_
  obtain ⟨I1, hc, h⟩ := h
  refine ex_callV (as := [.int 3]) (st := []) (ci := 5) dX5_takeInt_23 zmX5_take zl_RX5_64 ziX5_take zvX5_take (by decide) (ly_a2 hL) rfl (Nat.le_of_ble_eq_true rfl) (Nat.le_of_ble_eq_true rfl) hc ?_
  refine ex_step (pc' := 28) dX5_takeInt_26 rfl ?_
  refine ex_step (pc' := 29) dX5_takeInt_28 rfl ?_
  refine ex_icmp (pc' := 38) dX5_takeInt_29 (by decide) (fun c => ?_) (fun c => ?_)
  · have h := h.1 c
    refine ex_step (pc' := 39) dX5_takeInt_38 rfl ?_
    refine ex_step (pc' := 40) (st' := [.int 5, .ref 2]) dX5_takeInt_39 rfl ?_
    refine ex_step (pc' := 41) dX5_takeInt_40 rfl ?_
    obtain ⟨I2, hc, h⟩ := h
    refine ex_callV (as := [.int 5, .int (I 2 5)]) (st := []) (ci := 5) dX5_takeInt_41 zmX5_failLater zl_RX5_146 ziX5_failLater zvX5_failLater (by decide) (ly_a2 hL) rfl (Nat.le_of_ble_eq_true rfl) (Nat.le_of_ble_eq_true rfl) hc ?_
    refine ex_step (pc' := 46) dX5_takeInt_44 rfl ?_
    rw [h]; exact ex_ret (v := some (.int (zat I 23 402 (I 2 3)))) ⟨dX5_takeInt_46, _, rfl, rfl⟩
  · have h := h.2 c
    refine ex_step (pc' := 34) dX5_takeInt_32 rfl ?_
    refine ex_step (pc' := 35) dX5_takeInt_34 rfl ?_
    refine ex_icmp (pc' := 44) dX5_takeInt_35 (by decide) (fun c => ?_) (fun c => ?_)
    · have h := h.1 c
      refine ex_step (pc' := 46) dX5_takeInt_44 rfl ?_
      rw [h]; exact ex_ret (v := some (.int (zat I 23 402 (I 2 3)))) ⟨dX5_takeInt_46, _, rfl, rfl⟩
    · have h := h.2 c
      refine ex_step (pc' := 39) dX5_takeInt_38 rfl ?_
      refine ex_step (pc' := 40) (st' := [.int 5, .ref 2]) dX5_takeInt_39 rfl ?_
      refine ex_step (pc' := 41) dX5_takeInt_40 rfl ?_
      obtain ⟨I3, hc, h⟩ := h
      refine ex_callV (as := [.int 5, .int (I 2 5)]) (st := []) (ci := 5) dX5_takeInt_41 zmX5_failLater zl_RX5_146 ziX5_failLater zvX5_failLater (by decide) (ly_a2 hL) rfl (Nat.le_of_ble_eq_true rfl) (Nat.le_of_ble_eq_true rfl) hc ?_
      refine ex_step (pc' := 46) dX5_takeInt_44 rfl ?_
      rw [h]; exact ex_ret (v := some (.int (zat I 23 402 (I 2 3)))) ⟨dX5_takeInt_46, _, rfl, rfl⟩
set_option maxHeartbeats 4000000 in
theorem BX5_takeMan_0 {d : Nat} {Z : zZ} {I : zI} {J : zJ} {o : zO} {t u : Nat}  (hL : zLY Z t u)  (h : (∃ (v1 : Int64), zE (d + 2) kX8_nameAt 0 [some (.ref 20), some (.int (I 2 3))] [] Z I J (some (.long v1), Z, I, J) ∧ (∃ (v2 : Int32), zE (d + 2) kX6_manNamed 0 [some (.ref u), some (.long v1), none, none] [] Z I J (some (.int v2), Z, I, J) ∧ (∃ (I3 : zI), zE (d + 2) kX5_take 0 [some (.ref 2), some (.int 2)] [] Z I J (none, Z, I3, J) ∧ ((¬ v2 = (-1) → o = (some (.int v2), Z, I3, J)) ∧ (v2 = (-1) → (∃ (I4 : zI), zE (d + 2) kX5_failLater 0 [some (.ref 2), some (.int 4), some (.int (I 2 5))] [] Z I3 J (none, Z, I4, J) ∧ o = (some (.int v2), Z, I4, J)))))))) : zE (d + 3) kX5_takeMan 0 [some (.ref 2), none, none] [] Z I J o := by
  refine ex_step (pc' := 1) dX5_takeMan_0 rfl ?_
  refine ex_geti dX5_takeMan_1 wf_RX5_110 (ly_a2 hL) rfl ?_
  refine ex_step (pc' := 5) (ls' := [some (.ref 2), some (.int (I 2 5)), none]) dX5_takeMan_4 rfl ?_
  refine ex_step (pc' := 6) dX5_takeMan_5 rfl ?_
  refine ex_getr dX5_takeMan_6 wf_RX5_14 (ly_a2 hL) rfl (ly_rtext hL) ?_
  refine ex_step (pc' := 10) dX5_takeMan_9 rfl ?_
  refine ex_getr dX5_takeMan_10 wf_RX5_21 (ly_a2 hL) rfl (ly_r2_2 hL) ?_
  refine ex_step (pc' := 14) dX5_takeMan_13 rfl ?_
  refine ex_geti dX5_takeMan_14 wf_RX5_55 (ly_a2 hL) rfl ?_
  obtain ⟨v1, hc, h⟩ := h
  refine ex_callV (as := [.int (I 2 3)]) (st := [.ref u]) (ci := 8) dX5_takeMan_17 zmX8_nameAt zl_RX5_149 ziX8_nameAt zvX8_nameAt (by decide) (ly_a20 hL) rfl (Nat.le_of_ble_eq_true rfl) (Nat.le_of_ble_eq_true rfl) hc ?_
  obtain ⟨v2, hc, h⟩ := h
  refine ex_callV (as := [.long v1]) (st := []) (ci := 6) dX5_takeMan_20 zmX6_manNamed zl_RX5_153 ziX6_manNamed zvX6_manNamed (by decide) (zTx_o (ly_ux hL)) rfl (Nat.le_of_ble_eq_true rfl) (Nat.le_of_ble_eq_true rfl) hc ?_
  refine ex_step (pc' := 24) (ls' := [some (.ref 2), some (.int (I 2 5)), some (.int v2)]) dX5_takeMan_23 rfl ?_
  refine ex_step (pc' := 25) dX5_takeMan_24 rfl ?_
  refine ex_step (pc' := 26) (st' := [.int 2, .ref 2]) dX5_takeMan_25 rfl ?_
  obtain ⟨I3, hc, h⟩ := h
  refine ex_callV (as := [.int 2]) (st := []) (ci := 5) dX5_takeMan_26 zmX5_take zl_RX5_64 ziX5_take zvX5_take (by decide) (ly_a2 hL) rfl (Nat.le_of_ble_eq_true rfl) (Nat.le_of_ble_eq_true rfl) hc ?_
  refine ex_step (pc' := 30) dX5_takeMan_29 rfl ?_
  refine ex_step (pc' := 31) (st' := [.int (-1), .int v2]) dX5_takeMan_30 rfl ?_
  refine ex_icmp (pc' := 40) dX5_takeMan_31 (by decide) (fun c => ?_) (fun c => ?_)
  · have h := h.1 c
    refine ex_step (pc' := 41) dX5_takeMan_40 rfl ?_
    rw [h]; exact ex_ret (v := some (.int v2)) ⟨dX5_takeMan_41, _, rfl, rfl⟩
  · have h := h.2 (Classical.not_not.mp c)
    refine ex_step (pc' := 35) dX5_takeMan_34 rfl ?_
    refine ex_step (pc' := 36) (st' := [.int 4, .ref 2]) dX5_takeMan_35 rfl ?_
    refine ex_step (pc' := 37) dX5_takeMan_36 rfl ?_
    obtain ⟨I4, hc, h⟩ := h
    refine ex_callV (as := [.int 4, .int (I 2 5)]) (st := []) (ci := 5) dX5_takeMan_37 zmX5_failLater zl_RX5_146 ziX5_failLater zvX5_failLater (by decide) (ly_a2 hL) rfl (Nat.le_of_ble_eq_true rfl) (Nat.le_of_ble_eq_true rfl) hc ?_
    refine ex_step (pc' := 41) dX5_takeMan_40 rfl ?_
    rw [h]; exact ex_ret (v := some (.int v2)) ⟨dX5_takeMan_41, _, rfl, rfl⟩
set_option maxHeartbeats 4000000 in
theorem BX5_readMan_0 {d : Nat} {Z : zZ} {I : zI} {J : zJ} {o : zO} {t u : Nat}  (hL : zLY Z t u)  (h : (((I u 2) < 7 → zE (d + 5) kX5_readMan 21 [some (.ref 2), none, none, none, none] [] Z I J o) ∧ (¬ (I u 2) < 7 → (∃ (I1 : zI), zE (d + 4) kX5_fail 0 [some (.ref 2), some (.int 2), some (.int (I 2 5))] [] Z I J (none, Z, I1, J) ∧ zE (d + 5) kX5_readMan 21 [some (.ref 2), none, none, none, none] [] Z I1 J o)))) : zE (d + 5) kX5_readMan 0 [some (.ref 2), none, none, none, none] [] Z I J o := by
  refine ex_step (pc' := 1) dX5_readMan_0 rfl ?_
  refine ex_getr dX5_readMan_1 wf_RX5_14 (ly_a2 hL) rfl (ly_rtext hL) ?_
  refine ex_geti dX5_readMan_4 wf_RX5_157 (zTx_o (ly_ux hL)) rfl ?_
  refine ex_step (pc' := 9) (st' := [.int 7, .int (I u 2)]) dX5_readMan_7 rfl ?_
  refine ex_icmp (pc' := 21) dX5_readMan_9 (by decide) (fun c => ?_) (fun c => ?_)
  · have h := h.1 c
    exact h
  · have h := h.2 c
    refine ex_step (pc' := 13) dX5_readMan_12 rfl ?_
    refine ex_step (pc' := 14) (st' := [.int 2, .ref 2]) dX5_readMan_13 rfl ?_
    refine ex_step (pc' := 15) dX5_readMan_14 rfl ?_
    refine ex_geti dX5_readMan_15 wf_RX5_110 (ly_a2 hL) rfl ?_
    obtain ⟨I1, hc, h⟩ := h
    refine ex_callV (as := [.int 2, .int (I 2 5)]) (st := []) (ci := 5) dX5_readMan_18 zmX5_fail zl_RX5_113 ziX5_fail zvX5_fail (by decide) (ly_a2 hL) rfl (Nat.le_of_ble_eq_true rfl) (Nat.le_of_ble_eq_true rfl) hc ?_
    exact h
set_option maxHeartbeats 4000000 in
theorem BX5_readMan_21 {d : Nat} {Z : zZ} {I : zI} {J : zJ} {o : zO} {t u : Nat}  (hL : zLY Z t u)  (h : (∃ (I1 : zI), zE (d + 4) kX5_take 0 [some (.ref 2), some (.int 129)] [] Z I J (none, Z, I1, J) ∧ (∃ (v2 : Int64), zE (d + 4) kX8_nameAt 0 [some (.ref 20), some (.int (I1 2 3))] [] Z I1 J (some (.long v2), Z, I1, J) ∧ (∃ (I3 : zI), zE (d + 4) kX5_take 0 [some (.ref 2), some (.int 2)] [] Z I1 J (none, Z, I3, J) ∧ (∃ (v4 : Int32), zE (d + 4) kX6_manNamed 0 [some (.ref u), some (.long v2), none, none] [] Z I3 J (some (.int v4), Z, I3, J) ∧ ((v4 = (-1) → zE (d + 5) kX5_readMan 68 [some (.ref 2), none, some (.long v2), none, none] [] Z I3 J o) ∧ (¬ v4 = (-1) → (∃ (I5 : zI), zE (d + 4) kX5_failLater 0 [some (.ref 2), some (.int 3), some (.int (I1 2 5))] [] Z I3 J (none, Z, I5, J) ∧ zE (d + 5) kX5_readMan 68 [some (.ref 2), none, some (.long v2), none, none] [] Z I5 J o)))))))) : zE (d + 5) kX5_readMan 21 [some (.ref 2), none, none, none, none] [] Z I J o := by
  refine ex_step (pc' := 22) dX5_readMan_21 rfl ?_
  refine ex_step (pc' := 25) (st' := [.int 129, .ref 2]) dX5_readMan_22 rfl ?_
  obtain ⟨I1, hc, h⟩ := h
  refine ex_callV (as := [.int 129]) (st := []) (ci := 5) dX5_readMan_25 zmX5_take zl_RX5_64 ziX5_take zvX5_take (by decide) (ly_a2 hL) rfl (Nat.le_of_ble_eq_true rfl) (Nat.le_of_ble_eq_true rfl) hc ?_
  refine ex_step (pc' := 29) dX5_readMan_28 rfl ?_
  refine ex_geti dX5_readMan_29 wf_RX5_110 (ly_a2 hL) rfl ?_
  refine ex_step (pc' := 33) (ls' := [some (.ref 2), some (.int (I1 2 5)), none, none, none]) dX5_readMan_32 rfl ?_
  refine ex_step (pc' := 34) dX5_readMan_33 rfl ?_
  refine ex_getr dX5_readMan_34 wf_RX5_21 (ly_a2 hL) rfl (ly_r2_2 hL) ?_
  refine ex_step (pc' := 38) dX5_readMan_37 rfl ?_
  refine ex_geti dX5_readMan_38 wf_RX5_55 (ly_a2 hL) rfl ?_
  obtain ⟨v2, hc, h⟩ := h
  refine ex_callV (as := [.int (I1 2 3)]) (st := []) (ci := 8) dX5_readMan_41 zmX8_nameAt zl_RX5_149 ziX8_nameAt zvX8_nameAt (by decide) (ly_a20 hL) rfl (Nat.le_of_ble_eq_true rfl) (Nat.le_of_ble_eq_true rfl) hc ?_
  refine ex_step (pc' := 45) (ls' := [some (.ref 2), some (.int (I1 2 5)), some (.long v2), none, none]) dX5_readMan_44 rfl ?_
  refine ex_step (pc' := 46) dX5_readMan_45 rfl ?_
  refine ex_step (pc' := 47) (st' := [.int 2, .ref 2]) dX5_readMan_46 rfl ?_
  obtain ⟨I3, hc, h⟩ := h
  refine ex_callV (as := [.int 2]) (st := []) (ci := 5) dX5_readMan_47 zmX5_take zl_RX5_64 ziX5_take zvX5_take (by decide) (ly_a2 hL) rfl (Nat.le_of_ble_eq_true rfl) (Nat.le_of_ble_eq_true rfl) hc ?_
  refine ex_step (pc' := 51) dX5_readMan_50 rfl ?_
  refine ex_getr dX5_readMan_51 wf_RX5_14 (ly_a2 hL) rfl (ly_rtext hL) ?_
  refine ex_step (pc' := 55) dX5_readMan_54 rfl ?_
  obtain ⟨v4, hc, h⟩ := h
  refine ex_callV (as := [.long v2]) (st := []) (ci := 6) dX5_readMan_55 zmX6_manNamed zl_RX5_153 ziX6_manNamed zvX6_manNamed (by decide) (zTx_o (ly_ux hL)) rfl (Nat.le_of_ble_eq_true rfl) (Nat.le_of_ble_eq_true rfl) hc ?_
  refine ex_step (pc' := 59) (st' := [.int (-1), .int v4]) dX5_readMan_58 rfl ?_
  refine ex_icmp (pc' := 68) dX5_readMan_59 (by decide) (fun c => ?_) (fun c => ?_)
  · have h := h.1 c
    exact ex_less (ls' := [some (.ref 2), none, some (.long v2), none, none]) ⟨rfl, ⟨rfl, trivial⟩⟩ h
  · have h := h.2 c
    refine ex_step (pc' := 63) dX5_readMan_62 rfl ?_
    refine ex_step (pc' := 64) (st' := [.int 3, .ref 2]) dX5_readMan_63 rfl ?_
    refine ex_step (pc' := 65) dX5_readMan_64 rfl ?_
    obtain ⟨I5, hc, h⟩ := h
    refine ex_callV (as := [.int 3, .int (I1 2 5)]) (st := []) (ci := 5) dX5_readMan_65 zmX5_failLater zl_RX5_146 ziX5_failLater zvX5_failLater (by decide) (ly_a2 hL) rfl (Nat.le_of_ble_eq_true rfl) (Nat.le_of_ble_eq_true rfl) hc ?_
    exact ex_less (ls' := [some (.ref 2), none, some (.long v2), none, none]) ⟨rfl, ⟨rfl, trivial⟩⟩ h
set_option maxHeartbeats 4000000 in
theorem BX5_readMan_68 {d : Nat} {Z : zZ} {I : zI} {J : zJ} {o : zO} {t u : Nat} (w2 : Int64) (hL : zLY Z t u)  (h : (∃ (v1 : Int32) (I2 : zI), zE (d + 4) kX5_readCorner 0 [some (.ref 2), none] [] Z I J (some (.int v1), Z, I2, J) ∧ ((¬ (I2 2 6) = 0 → o = (none, Z, I2, J)) ∧ ((I2 2 6) = 0 → (∃ (I3 : zI) (J4 : zJ), zE (d + 4) kX6_addMan 0 [some (.ref u), some (.long w2), none, some (.int (zat I2 27 400 v1)), some (.int (zat I2 28 400 v1))] [] Z I2 J (none, Z, I3, J4) ∧ o = (none, Z, I3, J4)))))) : zE (d + 5) kX5_readMan 68 [some (.ref 2), none, some (.long w2), none, none] [] Z I J o := by
  refine ex_step (pc' := 69) dX5_readMan_68 rfl ?_
  obtain ⟨v1, I2, hc, h⟩ := h
  refine ex_callV (as := []) (st := []) (ci := 5) dX5_readMan_69 zmX5_readCorner zl_RX5_160 ziX5_readCorner zvX5_readCorner (by decide) (ly_a2 hL) rfl (Nat.le_of_ble_eq_true rfl) (Nat.le_of_ble_eq_true rfl) hc ?_
  refine ex_step (pc' := 74) (ls' := [some (.ref 2), none, some (.long w2), none, some (.int v1)]) dX5_readMan_72 rfl ?_
  refine ex_step (pc' := 75) dX5_readMan_74 rfl ?_
  refine ex_geti dX5_readMan_75 wf_RX5_45 (ly_a2 hL) rfl ?_
  refine ex_if (pc' := 107) dX5_readMan_78 (by decide) (fun c => ?_) (fun c => ?_)
  · have h := h.1 c
    rw [h]; exact ex_ret (v := none) ⟨dX5_readMan_107, rfl⟩
  · have h := h.2 (Classical.not_not.mp c)
    refine ex_step (pc' := 82) dX5_readMan_81 rfl ?_
    refine ex_getr dX5_readMan_82 wf_RX5_14 (ly_a2 hL) rfl (ly_rtext hL) ?_
    refine ex_step (pc' := 86) dX5_readMan_85 rfl ?_
    refine ex_step (pc' := 87) dX5_readMan_86 rfl ?_
    refine ex_getr dX5_readMan_87 wf_RX5_29 (ly_a2 hL) rfl (ly_r2_10 hL) ?_
    refine ex_step (pc' := 92) dX5_readMan_90 rfl ?_
    refine ex_callS (as := [.ref 27, .int v1]) (st := [.long w2, .ref u]) dX5_readMan_92 zmX11_at zl_RX5_126 zsX11_at rfl (Nat.le_of_ble_eq_true rfl) (Nat.le_of_ble_eq_true rfl) (S_at' (by decide) (ly_a27 hL)) ?_
    refine ex_step (pc' := 96) dX5_readMan_95 rfl ?_
    refine ex_getr dX5_readMan_96 wf_RX5_32 (ly_a2 hL) rfl (ly_r2_11 hL) ?_
    refine ex_step (pc' := 101) dX5_readMan_99 rfl ?_
    refine ex_callS (as := [.ref 28, .int v1]) (st := [.int (zat I2 27 400 v1), .long w2, .ref u]) dX5_readMan_101 zmX11_at zl_RX5_126 zsX11_at rfl (Nat.le_of_ble_eq_true rfl) (Nat.le_of_ble_eq_true rfl) (S_at' (by decide) (ly_a28 hL)) ?_
    obtain ⟨I3, J4, hc, h⟩ := h
    refine ex_callV (as := [.long w2, .int (zat I2 27 400 v1), .int (zat I2 28 400 v1)]) (st := []) (ci := 6) dX5_readMan_104 zmX6_addMan zl_RX5_163 ziX6_addMan zvX6_addMan (by decide) (zTx_o (ly_ux hL)) rfl (Nat.le_of_ble_eq_true rfl) (Nat.le_of_ble_eq_true rfl) hc ?_
    rw [h]; exact ex_ret (v := none) ⟨dX5_readMan_107, rfl⟩
set_option maxHeartbeats 4000000 in
theorem BX5_readErrand_0 {d : Nat} {Z : zZ} {I : zI} {J : zJ} {o : zO} {t u : Nat}  (hL : zLY Z t u)  (h : (∃ (I1 : zI), zE (d + 4) kX5_take 0 [some (.ref 2), some (.int 132)] [] Z I J (none, Z, I1, J) ∧ ((¬ (I1 2 4) = 2 → (((zat I1 (u + 11) 7 (-1)) < 6 → zE (d + 5) kX5_readErrand 65 [some (.ref 2), none, none, none, none] [] Z I1 J o) ∧ (¬ (zat I1 (u + 11) 7 (-1)) < 6 → (∃ (I2 : zI), zE (d + 4) kX5_fail 0 [some (.ref 2), some (.int 2), some (.int (I 2 5))] [] Z I1 J (none, Z, I2, J) ∧ zE (d + 5) kX5_readErrand 65 [some (.ref 2), none, none, none, none] [] Z I2 J o)))) ∧ ((I1 2 4) = 2 → (∃ (v3 : Int64), zE (d + 4) kX8_nameAt 0 [some (.ref 20), some (.int (I1 2 3))] [] Z I1 J (some (.long v3), Z, I1, J) ∧ (∃ (v4 : Int32), zE (d + 4) kX6_manNamed 0 [some (.ref u), some (.long v3), none, none] [] Z I1 J (some (.int v4), Z, I1, J) ∧ (((zat I1 (u + 11) 7 v4) < 6 → zE (d + 5) kX5_readErrand 65 [some (.ref 2), none, none, none, none] [] Z I1 J o) ∧ (¬ (zat I1 (u + 11) 7 v4) < 6 → (∃ (I5 : zI), zE (d + 4) kX5_fail 0 [some (.ref 2), some (.int 2), some (.int (I 2 5))] [] Z I1 J (none, Z, I5, J) ∧ zE (d + 5) kX5_readErrand 65 [some (.ref 2), none, none, none, none] [] Z I5 J o))))))))) : zE (d + 5) kX5_readErrand 0 [some (.ref 2), none, none, none, none] [] Z I J o := by
  refine ex_step (pc' := 1) dX5_readErrand_0 rfl ?_
  refine ex_geti dX5_readErrand_1 wf_RX5_110 (ly_a2 hL) rfl ?_
  refine ex_step (pc' := 5) (ls' := [some (.ref 2), some (.int (I 2 5)), none, none, none]) dX5_readErrand_4 rfl ?_
  refine ex_step (pc' := 6) dX5_readErrand_5 rfl ?_
  refine ex_step (pc' := 9) (st' := [.int 132, .ref 2]) dX5_readErrand_6 rfl ?_
  obtain ⟨I1, hc, h⟩ := h
  refine ex_callV (as := [.int 132]) (st := []) (ci := 5) dX5_readErrand_9 zmX5_take zl_RX5_64 ziX5_take zvX5_take (by decide) (ly_a2 hL) rfl (Nat.le_of_ble_eq_true rfl) (Nat.le_of_ble_eq_true rfl) hc ?_
  refine ex_step (pc' := 13) dX5_readErrand_12 rfl ?_
  refine ex_geti dX5_readErrand_13 wf_RX5_61 (ly_a2 hL) rfl ?_
  refine ex_step (pc' := 17) (st' := [.int 2, .int (I1 2 4)]) dX5_readErrand_16 rfl ?_
  refine ex_icmp (pc' := 41) dX5_readErrand_17 (by decide) (fun c => ?_) (fun c => ?_)
  · have h := h.1 c
    refine ex_step (pc' := 42) (st' := [.int (-1)]) dX5_readErrand_41 rfl ?_
    refine ex_step (pc' := 43) (ls' := [some (.ref 2), some (.int (I 2 5)), some (.int (-1)), none, none]) dX5_readErrand_42 rfl ?_
    refine ex_step (pc' := 44) dX5_readErrand_43 rfl ?_
    refine ex_getr dX5_readErrand_44 wf_RX5_14 (ly_a2 hL) rfl (ly_rtext hL) ?_
    refine ex_getr dX5_readErrand_47 wf_RX5_167 (zTx_o (ly_ux hL)) rfl (zTx_r12 (ly_ux hL)) ?_
    refine ex_step (pc' := 51) dX5_readErrand_50 rfl ?_
    refine ex_callS (as := [.ref (u + 11), .int (-1)]) (st := []) dX5_readErrand_51 zmX11_at zl_RX5_126 zsX11_at rfl (Nat.le_of_ble_eq_true rfl) (Nat.le_of_ble_eq_true rfl) (S_at' (by decide) (zTx_a11 (ly_ux hL))) ?_
    refine ex_step (pc' := 56) (st' := [.int 6, .int (zat I1 (u + 11) 7 (-1))]) dX5_readErrand_54 rfl ?_
    refine ex_icmp (pc' := 65) dX5_readErrand_56 (by decide) (fun c => ?_) (fun c => ?_)
    · have h := h.1 c
      exact ex_less (ls' := [some (.ref 2), none, none, none, none]) ⟨rfl, trivial⟩ h
    · have h := h.2 c
      refine ex_step (pc' := 60) dX5_readErrand_59 rfl ?_
      refine ex_step (pc' := 61) (st' := [.int 2, .ref 2]) dX5_readErrand_60 rfl ?_
      refine ex_step (pc' := 62) dX5_readErrand_61 rfl ?_
      obtain ⟨I2, hc, h⟩ := h
      refine ex_callV (as := [.int 2, .int (I 2 5)]) (st := []) (ci := 5) dX5_readErrand_62 zmX5_fail zl_RX5_113 ziX5_fail zvX5_fail (by decide) (ly_a2 hL) rfl (Nat.le_of_ble_eq_true rfl) (Nat.le_of_ble_eq_true rfl) hc ?_
      exact ex_less (ls' := [some (.ref 2), none, none, none, none]) ⟨rfl, trivial⟩ h
  · have h := h.2 (Classical.not_not.mp c)
    refine ex_step (pc' := 21) dX5_readErrand_20 rfl ?_
    refine ex_getr dX5_readErrand_21 wf_RX5_14 (ly_a2 hL) rfl (ly_rtext hL) ?_
    refine ex_step (pc' := 25) dX5_readErrand_24 rfl ?_
    refine ex_getr dX5_readErrand_25 wf_RX5_21 (ly_a2 hL) rfl (ly_r2_2 hL) ?_
    refine ex_step (pc' := 29) dX5_readErrand_28 rfl ?_
    refine ex_geti dX5_readErrand_29 wf_RX5_55 (ly_a2 hL) rfl ?_
    obtain ⟨v3, hc, h⟩ := h
    refine ex_callV (as := [.int (I1 2 3)]) (st := [.ref u]) (ci := 8) dX5_readErrand_32 zmX8_nameAt zl_RX5_149 ziX8_nameAt zvX8_nameAt (by decide) (ly_a20 hL) rfl (Nat.le_of_ble_eq_true rfl) (Nat.le_of_ble_eq_true rfl) hc ?_
    obtain ⟨v4, hc, h⟩ := h
    refine ex_callV (as := [.long v3]) (st := []) (ci := 6) dX5_readErrand_35 zmX6_manNamed zl_RX5_153 ziX6_manNamed zvX6_manNamed (by decide) (zTx_o (ly_ux hL)) rfl (Nat.le_of_ble_eq_true rfl) (Nat.le_of_ble_eq_true rfl) hc ?_
    refine ex_step (pc' := 42) dX5_readErrand_38 rfl ?_
    refine ex_step (pc' := 43) (ls' := [some (.ref 2), some (.int (I 2 5)), some (.int v4), none, none]) dX5_readErrand_42 rfl ?_
    refine ex_step (pc' := 44) dX5_readErrand_43 rfl ?_
    refine ex_getr dX5_readErrand_44 wf_RX5_14 (ly_a2 hL) rfl (ly_rtext hL) ?_
    refine ex_getr dX5_readErrand_47 wf_RX5_167 (zTx_o (ly_ux hL)) rfl (zTx_r12 (ly_ux hL)) ?_
    refine ex_step (pc' := 51) dX5_readErrand_50 rfl ?_
    refine ex_callS (as := [.ref (u + 11), .int v4]) (st := []) dX5_readErrand_51 zmX11_at zl_RX5_126 zsX11_at rfl (Nat.le_of_ble_eq_true rfl) (Nat.le_of_ble_eq_true rfl) (S_at' (by decide) (zTx_a11 (ly_ux hL))) ?_
    refine ex_step (pc' := 56) (st' := [.int 6, .int (zat I1 (u + 11) 7 v4)]) dX5_readErrand_54 rfl ?_
    refine ex_icmp (pc' := 65) dX5_readErrand_56 (by decide) (fun c => ?_) (fun c => ?_)
    · have h := h.1 c
      exact ex_less (ls' := [some (.ref 2), none, none, none, none]) ⟨rfl, trivial⟩ h
    · have h := h.2 c
      refine ex_step (pc' := 60) dX5_readErrand_59 rfl ?_
      refine ex_step (pc' := 61) (st' := [.int 2, .ref 2]) dX5_readErrand_60 rfl ?_
      refine ex_step (pc' := 62) dX5_readErrand_61 rfl ?_
      obtain ⟨I5, hc, h⟩ := h
      refine ex_callV (as := [.int 2, .int (I 2 5)]) (st := []) (ci := 5) dX5_readErrand_62 zmX5_fail zl_RX5_113 ziX5_fail zvX5_fail (by decide) (ly_a2 hL) rfl (Nat.le_of_ble_eq_true rfl) (Nat.le_of_ble_eq_true rfl) hc ?_
      exact ex_less (ls' := [some (.ref 2), none, none, none, none]) ⟨rfl, trivial⟩ h
set_option maxHeartbeats 4000000 in
theorem BX5_readErrand_65 {d : Nat} {Z : zZ} {I : zI} {J : zJ} {o : zO} {t u : Nat}  (hL : zLY Z t u)  (h : (∃ (v1 : Int32) (I2 : zI), zE (d + 4) kX5_takeMan 0 [some (.ref 2), none, none] [] Z I J (some (.int v1), Z, I2, J) ∧ (∃ (v3 : Int32) (I4 : zI), zE (d + 4) kX5_readCorner 0 [some (.ref 2), none] [] Z I2 J (some (.int v3), Z, I4, J) ∧ ((¬ (I4 2 6) = 0 → o = (none, Z, I4, J)) ∧ ((I4 2 6) = 0 → ((v1 = (-1) → o = (none, Z, I4, J)) ∧ (¬ v1 = (-1) → (∃ (I5 : zI), zE (d + 4) kX6_addErrand 0 [some (.ref u), some (.int v1), some (.int (zat I4 27 400 v3)), some (.int (zat I4 28 400 v3)), none] [] Z I4 J (none, Z, I5, J) ∧ o = (none, Z, I5, J))))))))) : zE (d + 5) kX5_readErrand 65 [some (.ref 2), none, none, none, none] [] Z I J o := by
  refine ex_step (pc' := 66) dX5_readErrand_65 rfl ?_
  obtain ⟨v1, I2, hc, h⟩ := h
  refine ex_callV (as := []) (st := []) (ci := 5) dX5_readErrand_66 zmX5_takeMan zl_RX5_84 ziX5_takeMan zvX5_takeMan (by decide) (ly_a2 hL) rfl (Nat.le_of_ble_eq_true rfl) (Nat.le_of_ble_eq_true rfl) hc ?_
  refine ex_step (pc' := 70) (ls' := [some (.ref 2), none, none, some (.int v1), none]) dX5_readErrand_69 rfl ?_
  refine ex_step (pc' := 71) dX5_readErrand_70 rfl ?_
  obtain ⟨v3, I4, hc, h⟩ := h
  refine ex_callV (as := []) (st := []) (ci := 5) dX5_readErrand_71 zmX5_readCorner zl_RX5_160 ziX5_readCorner zvX5_readCorner (by decide) (ly_a2 hL) rfl (Nat.le_of_ble_eq_true rfl) (Nat.le_of_ble_eq_true rfl) hc ?_
  refine ex_step (pc' := 76) (ls' := [some (.ref 2), none, none, some (.int v1), some (.int v3)]) dX5_readErrand_74 rfl ?_
  refine ex_step (pc' := 77) dX5_readErrand_76 rfl ?_
  refine ex_geti dX5_readErrand_77 wf_RX5_45 (ly_a2 hL) rfl ?_
  refine ex_if (pc' := 114) dX5_readErrand_80 (by decide) (fun c => ?_) (fun c => ?_)
  · have h := h.1 c
    rw [h]; exact ex_ret (v := none) ⟨dX5_readErrand_114, rfl⟩
  · have h := h.2 (Classical.not_not.mp c)
    refine ex_step (pc' := 84) dX5_readErrand_83 rfl ?_
    refine ex_step (pc' := 85) (st' := [.int (-1), .int v1]) dX5_readErrand_84 rfl ?_
    refine ex_icmp (pc' := 114) dX5_readErrand_85 (by decide) (fun c => ?_) (fun c => ?_)
    · have h := h.1 c
      rw [h]; exact ex_ret (v := none) ⟨dX5_readErrand_114, rfl⟩
    · have h := h.2 c
      refine ex_step (pc' := 89) dX5_readErrand_88 rfl ?_
      refine ex_getr dX5_readErrand_89 wf_RX5_14 (ly_a2 hL) rfl (ly_rtext hL) ?_
      refine ex_step (pc' := 93) dX5_readErrand_92 rfl ?_
      refine ex_step (pc' := 94) dX5_readErrand_93 rfl ?_
      refine ex_getr dX5_readErrand_94 wf_RX5_29 (ly_a2 hL) rfl (ly_r2_10 hL) ?_
      refine ex_step (pc' := 99) dX5_readErrand_97 rfl ?_
      refine ex_callS (as := [.ref 27, .int v3]) (st := [.int v1, .ref u]) dX5_readErrand_99 zmX11_at zl_RX5_126 zsX11_at rfl (Nat.le_of_ble_eq_true rfl) (Nat.le_of_ble_eq_true rfl) (S_at' (by decide) (ly_a27 hL)) ?_
      refine ex_step (pc' := 103) dX5_readErrand_102 rfl ?_
      refine ex_getr dX5_readErrand_103 wf_RX5_32 (ly_a2 hL) rfl (ly_r2_11 hL) ?_
      refine ex_step (pc' := 108) dX5_readErrand_106 rfl ?_
      refine ex_callS (as := [.ref 28, .int v3]) (st := [.int (zat I4 27 400 v3), .int v1, .ref u]) dX5_readErrand_108 zmX11_at zl_RX5_126 zsX11_at rfl (Nat.le_of_ble_eq_true rfl) (Nat.le_of_ble_eq_true rfl) (S_at' (by decide) (ly_a28 hL)) ?_
      obtain ⟨I5, hc, h⟩ := h
      refine ex_callV (as := [.int v1, .int (zat I4 27 400 v3), .int (zat I4 28 400 v3)]) (st := []) (ci := 6) dX5_readErrand_111 zmX6_addErrand zl_RX5_170 ziX6_addErrand zvX6_addErrand (by decide) (zTx_o (ly_ux hL)) rfl (Nat.le_of_ble_eq_true rfl) (Nat.le_of_ble_eq_true rfl) hc ?_
      rw [h]; exact ex_ret (v := none) ⟨dX5_readErrand_114, rfl⟩
set_option maxHeartbeats 4000000 in
theorem BX5_readCorner_0 {d : Nat} {Z : zZ} {I : zI} {J : zJ} {o : zO} {t u : Nat}  (hL : zLY Z t u)  (h : (∀ I1 : zI, I1 = zpt I 26 400 (I 2 12) (I 2 5) → (∃ (v2 : Int32) (I3 : zI), zE (d + 3) kX5_takeInt 0 [some (.ref 2), some (.int 0), some (.int 11), none, none] [] Z I1 J (some (.int v2), Z, I3, J) ∧ (∀ I4 : zI, I4 = zpt I3 27 400 (I 2 12) v2 → (∃ (v5 : Int32) (I6 : zI), zE (d + 3) kX5_takeInt 0 [some (.ref 2), some (.int 0), some (.int 11), none, none] [] Z I4 J (some (.int v5), Z, I6, J) ∧ (∀ I7 : zI, I7 = zpt I6 28 400 (I 2 12) v5 → (∀ I8 : zI, I8 = zu I7 2 12 ((I7 2 12) + 1) → o = (some (.int (I 2 12)), Z, I8, J)))))))) : zE (d + 4) kX5_readCorner 0 [some (.ref 2), none] [] Z I J o := by
  refine ex_step (pc' := 1) dX5_readCorner_0 rfl ?_
  refine ex_geti dX5_readCorner_1 wf_RX5_52 (ly_a2 hL) rfl ?_
  refine ex_step (pc' := 5) (ls' := [some (.ref 2), some (.int (I 2 12))]) dX5_readCorner_4 rfl ?_
  refine ex_step (pc' := 6) dX5_readCorner_5 rfl ?_
  refine ex_getr dX5_readCorner_6 wf_RX5_25 (ly_a2 hL) rfl (ly_r2_9 hL) ?_
  refine ex_step (pc' := 10) dX5_readCorner_9 rfl ?_
  refine ex_step (pc' := 11) dX5_readCorner_10 rfl ?_
  refine ex_geti dX5_readCorner_11 wf_RX5_110 (ly_a2 hL) rfl ?_
  obtain ⟨I1, eI1⟩ : ∃ q : zI, q = zpt I 26 400 (I 2 12) (I 2 5) := ⟨_, rfl⟩
  have h := h I1 eI1
  refine ex_callS (as := [.ref 26, .int (I 2 12), .int (I 2 5)]) (st := []) dX5_readCorner_14 zmX11_put zl_RX5_91 zsX11_put rfl (Nat.le_of_ble_eq_true rfl) (Nat.le_of_ble_eq_true rfl) (eI1 ▸ (S_put' (by decide) (ly_a26 hL))) ?_
  refine ex_step (pc' := 18) dX5_readCorner_17 rfl ?_
  refine ex_getr dX5_readCorner_18 wf_RX5_29 (ly_a2 hL) rfl (ly_r2_10 hL) ?_
  refine ex_step (pc' := 22) dX5_readCorner_21 rfl ?_
  refine ex_step (pc' := 23) dX5_readCorner_22 rfl ?_
  refine ex_step (pc' := 24) (st' := [.int 0, .ref 2, .int (I 2 12), .ref 27]) dX5_readCorner_23 rfl ?_
  refine ex_step (pc' := 26) (st' := [.int 11, .int 0, .ref 2, .int (I 2 12), .ref 27]) dX5_readCorner_24 rfl ?_
  obtain ⟨v2, I3, hc, h⟩ := h
  refine ex_callV (as := [.int 0, .int 11]) (st := [.int (I 2 12), .ref 27]) (ci := 5) dX5_readCorner_26 zmX5_takeInt zl_RX5_68 ziX5_takeInt zvX5_takeInt (by decide) (ly_a2 hL) rfl (Nat.le_of_ble_eq_true rfl) (Nat.le_of_ble_eq_true rfl) hc ?_
  obtain ⟨I4, eI4⟩ : ∃ q : zI, q = zpt I3 27 400 (I 2 12) v2 := ⟨_, rfl⟩
  have h := h I4 eI4
  refine ex_callS (as := [.ref 27, .int (I 2 12), .int v2]) (st := []) dX5_readCorner_29 zmX11_put zl_RX5_91 zsX11_put rfl (Nat.le_of_ble_eq_true rfl) (Nat.le_of_ble_eq_true rfl) (eI4 ▸ (S_put' (by decide) (ly_a27 hL))) ?_
  refine ex_step (pc' := 33) dX5_readCorner_32 rfl ?_
  refine ex_getr dX5_readCorner_33 wf_RX5_32 (ly_a2 hL) rfl (ly_r2_11 hL) ?_
  refine ex_step (pc' := 37) dX5_readCorner_36 rfl ?_
  refine ex_step (pc' := 38) dX5_readCorner_37 rfl ?_
  refine ex_step (pc' := 39) (st' := [.int 0, .ref 2, .int (I 2 12), .ref 28]) dX5_readCorner_38 rfl ?_
  refine ex_step (pc' := 41) (st' := [.int 11, .int 0, .ref 2, .int (I 2 12), .ref 28]) dX5_readCorner_39 rfl ?_
  obtain ⟨v5, I6, hc, h⟩ := h
  refine ex_callV (as := [.int 0, .int 11]) (st := [.int (I 2 12), .ref 28]) (ci := 5) dX5_readCorner_41 zmX5_takeInt zl_RX5_68 ziX5_takeInt zvX5_takeInt (by decide) (ly_a2 hL) rfl (Nat.le_of_ble_eq_true rfl) (Nat.le_of_ble_eq_true rfl) hc ?_
  obtain ⟨I7, eI7⟩ : ∃ q : zI, q = zpt I6 28 400 (I 2 12) v5 := ⟨_, rfl⟩
  have h := h I7 eI7
  refine ex_callS (as := [.ref 28, .int (I 2 12), .int v5]) (st := []) dX5_readCorner_44 zmX11_put zl_RX5_91 zsX11_put rfl (Nat.le_of_ble_eq_true rfl) (Nat.le_of_ble_eq_true rfl) (eI7 ▸ (S_put' (by decide) (ly_a28 hL))) ?_
  refine ex_step (pc' := 48) dX5_readCorner_47 rfl ?_
  refine ex_step (pc' := 49) dX5_readCorner_48 rfl ?_
  refine ex_geti dX5_readCorner_49 wf_RX5_52 (ly_a2 hL) rfl ?_
  refine ex_step (pc' := 53) (st' := [.int 1, .int (I7 2 12), .ref 2]) dX5_readCorner_52 rfl ?_
  refine ex_step (pc' := 54) dX5_readCorner_53 rfl ?_
  refine ex_putiN dX5_readCorner_54 (wp_RX5_52 _) (ly_a2 hL) rfl ⟨rfl, rfl⟩ (fun I8 eI8 => ?_)
  have h := h I8 eI8
  refine ex_step (pc' := 58) dX5_readCorner_57 rfl ?_
  rw [h]; exact ex_ret (v := some (.int (I 2 12))) ⟨dX5_readCorner_58, _, rfl, rfl⟩
set_option maxHeartbeats 4000000 in
theorem BX5_readPillar_0 {d : Nat} {Z : zZ} {I : zI} {J : zJ} {o : zO} {t u : Nat}  (hL : zLY Z t u)  (h : (((I u 3) < 6 → (∃ (I1 : zI), zE (d + 3) kX5_take 0 [some (.ref 2), some (.int 133)] [] Z I J (none, Z, I1, J) ∧ (∃ (v2 : Int32) (I3 : zI), zE (d + 3) kX5_takeInt 0 [some (.ref 2), some (.int 0), some (.int 10), none, none] [] Z I1 J (some (.int v2), Z, I3, J) ∧ (∃ (v4 : Int32) (I5 : zI), zE (d + 3) kX5_takeInt 0 [some (.ref 2), some (.int 0), some (.int 10), none, none] [] Z I3 J (some (.int v4), Z, I5, J) ∧ ((¬ (I5 2 6) = 0 → o = (none, Z, I5, J)) ∧ ((I5 2 6) = 0 → (∃ (I6 : zI), zE (d + 3) kX6_addPillar 0 [some (.ref u), some (.int v2), some (.int v4)] [] Z I5 J (none, Z, I6, J) ∧ o = (none, Z, I6, J)))))))) ∧ (¬ (I u 3) < 6 → (∃ (I7 : zI), zE (d + 3) kX5_fail 0 [some (.ref 2), some (.int 2), some (.int (I 2 5))] [] Z I J (none, Z, I7, J) ∧ (∃ (I8 : zI), zE (d + 3) kX5_take 0 [some (.ref 2), some (.int 133)] [] Z I7 J (none, Z, I8, J) ∧ (∃ (v9 : Int32) (I10 : zI), zE (d + 3) kX5_takeInt 0 [some (.ref 2), some (.int 0), some (.int 10), none, none] [] Z I8 J (some (.int v9), Z, I10, J) ∧ (∃ (v11 : Int32) (I12 : zI), zE (d + 3) kX5_takeInt 0 [some (.ref 2), some (.int 0), some (.int 10), none, none] [] Z I10 J (some (.int v11), Z, I12, J) ∧ ((¬ (I12 2 6) = 0 → o = (none, Z, I12, J)) ∧ ((I12 2 6) = 0 → (∃ (I13 : zI), zE (d + 3) kX6_addPillar 0 [some (.ref u), some (.int v9), some (.int v11)] [] Z I12 J (none, Z, I13, J) ∧ o = (none, Z, I13, J))))))))))) : zE (d + 4) kX5_readPillar 0 [some (.ref 2), none, none] [] Z I J o := by
  refine ex_step (pc' := 1) dX5_readPillar_0 rfl ?_
  refine ex_getr dX5_readPillar_1 wf_RX5_14 (ly_a2 hL) rfl (ly_rtext hL) ?_
  refine ex_geti dX5_readPillar_4 wf_RX5_174 (zTx_o (ly_ux hL)) rfl ?_
  refine ex_step (pc' := 9) (st' := [.int 6, .int (I u 3)]) dX5_readPillar_7 rfl ?_
  refine ex_icmp (pc' := 21) dX5_readPillar_9 (by decide) (fun c => ?_) (fun c => ?_)
  · have h := h.1 c
    refine ex_step (pc' := 22) dX5_readPillar_21 rfl ?_
    refine ex_step (pc' := 25) (st' := [.int 133, .ref 2]) dX5_readPillar_22 rfl ?_
    obtain ⟨I1, hc, h⟩ := h
    refine ex_callV (as := [.int 133]) (st := []) (ci := 5) dX5_readPillar_25 zmX5_take zl_RX5_64 ziX5_take zvX5_take (by decide) (ly_a2 hL) rfl (Nat.le_of_ble_eq_true rfl) (Nat.le_of_ble_eq_true rfl) hc ?_
    refine ex_step (pc' := 29) dX5_readPillar_28 rfl ?_
    refine ex_step (pc' := 30) (st' := [.int 0, .ref 2]) dX5_readPillar_29 rfl ?_
    refine ex_step (pc' := 32) (st' := [.int 10, .int 0, .ref 2]) dX5_readPillar_30 rfl ?_
    obtain ⟨v2, I3, hc, h⟩ := h
    refine ex_callV (as := [.int 0, .int 10]) (st := []) (ci := 5) dX5_readPillar_32 zmX5_takeInt zl_RX5_68 ziX5_takeInt zvX5_takeInt (by decide) (ly_a2 hL) rfl (Nat.le_of_ble_eq_true rfl) (Nat.le_of_ble_eq_true rfl) hc ?_
    refine ex_step (pc' := 36) (ls' := [some (.ref 2), some (.int v2), none]) dX5_readPillar_35 rfl ?_
    refine ex_step (pc' := 37) dX5_readPillar_36 rfl ?_
    refine ex_step (pc' := 38) (st' := [.int 0, .ref 2]) dX5_readPillar_37 rfl ?_
    refine ex_step (pc' := 40) (st' := [.int 10, .int 0, .ref 2]) dX5_readPillar_38 rfl ?_
    obtain ⟨v4, I5, hc, h⟩ := h
    refine ex_callV (as := [.int 0, .int 10]) (st := []) (ci := 5) dX5_readPillar_40 zmX5_takeInt zl_RX5_68 ziX5_takeInt zvX5_takeInt (by decide) (ly_a2 hL) rfl (Nat.le_of_ble_eq_true rfl) (Nat.le_of_ble_eq_true rfl) hc ?_
    refine ex_step (pc' := 44) (ls' := [some (.ref 2), some (.int v2), some (.int v4)]) dX5_readPillar_43 rfl ?_
    refine ex_step (pc' := 45) dX5_readPillar_44 rfl ?_
    refine ex_geti dX5_readPillar_45 wf_RX5_45 (ly_a2 hL) rfl ?_
    refine ex_if (pc' := 60) dX5_readPillar_48 (by decide) (fun c => ?_) (fun c => ?_)
    · have h := h.1 c
      rw [h]; exact ex_ret (v := none) ⟨dX5_readPillar_60, rfl⟩
    · have h := h.2 (Classical.not_not.mp c)
      refine ex_step (pc' := 52) dX5_readPillar_51 rfl ?_
      refine ex_getr dX5_readPillar_52 wf_RX5_14 (ly_a2 hL) rfl (ly_rtext hL) ?_
      refine ex_step (pc' := 56) dX5_readPillar_55 rfl ?_
      refine ex_step (pc' := 57) dX5_readPillar_56 rfl ?_
      obtain ⟨I6, hc, h⟩ := h
      refine ex_callV (as := [.int v2, .int v4]) (st := []) (ci := 6) dX5_readPillar_57 zmX6_addPillar zl_RX5_177 ziX6_addPillar zvX6_addPillar (by decide) (zTx_o (ly_ux hL)) rfl (Nat.le_of_ble_eq_true rfl) (Nat.le_of_ble_eq_true rfl) hc ?_
      rw [h]; exact ex_ret (v := none) ⟨dX5_readPillar_60, rfl⟩
  · have h := h.2 c
    refine ex_step (pc' := 13) dX5_readPillar_12 rfl ?_
    refine ex_step (pc' := 14) (st' := [.int 2, .ref 2]) dX5_readPillar_13 rfl ?_
    refine ex_step (pc' := 15) dX5_readPillar_14 rfl ?_
    refine ex_geti dX5_readPillar_15 wf_RX5_110 (ly_a2 hL) rfl ?_
    obtain ⟨I7, hc, h⟩ := h
    refine ex_callV (as := [.int 2, .int (I 2 5)]) (st := []) (ci := 5) dX5_readPillar_18 zmX5_fail zl_RX5_113 ziX5_fail zvX5_fail (by decide) (ly_a2 hL) rfl (Nat.le_of_ble_eq_true rfl) (Nat.le_of_ble_eq_true rfl) hc ?_
    refine ex_step (pc' := 22) dX5_readPillar_21 rfl ?_
    refine ex_step (pc' := 25) (st' := [.int 133, .ref 2]) dX5_readPillar_22 rfl ?_
    obtain ⟨I8, hc, h⟩ := h
    refine ex_callV (as := [.int 133]) (st := []) (ci := 5) dX5_readPillar_25 zmX5_take zl_RX5_64 ziX5_take zvX5_take (by decide) (ly_a2 hL) rfl (Nat.le_of_ble_eq_true rfl) (Nat.le_of_ble_eq_true rfl) hc ?_
    refine ex_step (pc' := 29) dX5_readPillar_28 rfl ?_
    refine ex_step (pc' := 30) (st' := [.int 0, .ref 2]) dX5_readPillar_29 rfl ?_
    refine ex_step (pc' := 32) (st' := [.int 10, .int 0, .ref 2]) dX5_readPillar_30 rfl ?_
    obtain ⟨v9, I10, hc, h⟩ := h
    refine ex_callV (as := [.int 0, .int 10]) (st := []) (ci := 5) dX5_readPillar_32 zmX5_takeInt zl_RX5_68 ziX5_takeInt zvX5_takeInt (by decide) (ly_a2 hL) rfl (Nat.le_of_ble_eq_true rfl) (Nat.le_of_ble_eq_true rfl) hc ?_
    refine ex_step (pc' := 36) (ls' := [some (.ref 2), some (.int v9), none]) dX5_readPillar_35 rfl ?_
    refine ex_step (pc' := 37) dX5_readPillar_36 rfl ?_
    refine ex_step (pc' := 38) (st' := [.int 0, .ref 2]) dX5_readPillar_37 rfl ?_
    refine ex_step (pc' := 40) (st' := [.int 10, .int 0, .ref 2]) dX5_readPillar_38 rfl ?_
    obtain ⟨v11, I12, hc, h⟩ := h
    refine ex_callV (as := [.int 0, .int 10]) (st := []) (ci := 5) dX5_readPillar_40 zmX5_takeInt zl_RX5_68 ziX5_takeInt zvX5_takeInt (by decide) (ly_a2 hL) rfl (Nat.le_of_ble_eq_true rfl) (Nat.le_of_ble_eq_true rfl) hc ?_
    refine ex_step (pc' := 44) (ls' := [some (.ref 2), some (.int v9), some (.int v11)]) dX5_readPillar_43 rfl ?_
    refine ex_step (pc' := 45) dX5_readPillar_44 rfl ?_
    refine ex_geti dX5_readPillar_45 wf_RX5_45 (ly_a2 hL) rfl ?_
    refine ex_if (pc' := 60) dX5_readPillar_48 (by decide) (fun c => ?_) (fun c => ?_)
    · have h := h.1 c
      rw [h]; exact ex_ret (v := none) ⟨dX5_readPillar_60, rfl⟩
    · have h := h.2 (Classical.not_not.mp c)
      refine ex_step (pc' := 52) dX5_readPillar_51 rfl ?_
      refine ex_getr dX5_readPillar_52 wf_RX5_14 (ly_a2 hL) rfl (ly_rtext hL) ?_
      refine ex_step (pc' := 56) dX5_readPillar_55 rfl ?_
      refine ex_step (pc' := 57) dX5_readPillar_56 rfl ?_
      obtain ⟨I13, hc, h⟩ := h
      refine ex_callV (as := [.int v9, .int v11]) (st := []) (ci := 6) dX5_readPillar_57 zmX6_addPillar zl_RX5_177 ziX6_addPillar zvX6_addPillar (by decide) (zTx_o (ly_ux hL)) rfl (Nat.le_of_ble_eq_true rfl) (Nat.le_of_ble_eq_true rfl) hc ?_
      rw [h]; exact ex_ret (v := none) ⟨dX5_readPillar_60, rfl⟩
set_option maxHeartbeats 4000000 in
theorem BX5_readLaw_0 {d : Nat} {Z : zZ} {I : zI} {J : zJ} {o : zO} {t u : Nat}  (hL : zLY Z t u)  (h : (∃ (I1 : zI), zE (d + 4) kX5_take 0 [some (.ref 2), some (.int 61)] [] Z I J (none, Z, I1, J) ∧ zE (d + 5) kX5_readLaw 21 [some (.ref 2), some (.ref (u + 1)), some (.int (I (u + 1) 0)), some (.int 0), none] [] Z I1 J o)) : zE (d + 5) kX5_readLaw 0 [some (.ref 2), none, none, none, none] [] Z I J o := by
  refine ex_step (pc' := 1) dX5_readLaw_0 rfl ?_
  refine ex_getr dX5_readLaw_1 wf_RX5_14 (ly_a2 hL) rfl (ly_rtext hL) ?_
  refine ex_getr dX5_readLaw_4 wf_RX5_180 (zTx_o (ly_ux hL)) rfl (zTx_r6 (ly_ux hL)) ?_
  refine ex_step (pc' := 8) (ls' := [some (.ref 2), some (.ref (u + 1)), none, none, none]) dX5_readLaw_7 rfl ?_
  refine ex_step (pc' := 9) dX5_readLaw_8 rfl ?_
  refine ex_geti dX5_readLaw_9 wf_RX5_184 (zLw_o (zTx_l (ly_ux hL))) rfl ?_
  refine ex_step (pc' := 13) (ls' := [some (.ref 2), some (.ref (u + 1)), some (.int (I (u + 1) 0)), none, none]) dX5_readLaw_12 rfl ?_
  refine ex_step (pc' := 14) dX5_readLaw_13 rfl ?_
  refine ex_step (pc' := 16) (st' := [.int 61, .ref 2]) dX5_readLaw_14 rfl ?_
  obtain ⟨I1, hc, h⟩ := h
  refine ex_callV (as := [.int 61]) (st := []) (ci := 5) dX5_readLaw_16 zmX5_take zl_RX5_64 ziX5_take zvX5_take (by decide) (ly_a2 hL) rfl (Nat.le_of_ble_eq_true rfl) (Nat.le_of_ble_eq_true rfl) hc ?_
  refine ex_step (pc' := 20) (st' := [.int 0]) dX5_readLaw_19 rfl ?_
  refine ex_step (pc' := 21) (ls' := [some (.ref 2), some (.ref (u + 1)), some (.int (I (u + 1) 0)), some (.int 0), none]) dX5_readLaw_20 rfl ?_
  exact h
set_option maxHeartbeats 4000000 in
theorem BX5_readLaw_21 {d : Nat} {Z : zZ} {I : zI} {J : zJ} {o : zO} {t u : Nat} {l1 : Nat} (x2 : Int32) (x3 : Int32) (hL : zLY Z t u) (hl1 : zLw Z l1) (h : ((4 < x3 → zE (d + 5) kX5_readLaw 126 [some (.ref 2), some (.ref l1), some (.int x2), none, none] [] Z I J o) ∧ (¬ 4 < x3 → ((¬ (I 2 6) = 0 → zE (d + 5) kX5_readLaw 126 [some (.ref 2), some (.ref l1), some (.int x2), none, none] [] Z I J o) ∧ ((I 2 6) = 0 → ((¬ (I 2 4) = 136 → zE (d + 5) kX5_readLaw 126 [some (.ref 2), some (.ref l1), some (.int x2), none, none] [] Z I J o) ∧ ((I 2 4) = 136 → ((¬ x3 = 4 → zE (d + 5) kX5_readLaw 57 [some (.ref 2), some (.ref l1), some (.int x2), some (.int x3), none] [] Z I J o) ∧ (x3 = 4 → (∃ (I1 : zI), zE (d + 4) kX5_fail 0 [some (.ref 2), some (.int 2), some (.int (I 2 5))] [] Z I J (none, Z, I1, J) ∧ zE (d + 5) kX5_readLaw 57 [some (.ref 2), some (.ref l1), some (.int x2), some (.int x3), none] [] Z I1 J o)))))))))) : zE (d + 5) kX5_readLaw 21 [some (.ref 2), some (.ref l1), some (.int x2), some (.int x3), none] [] Z I J o := by
  refine ex_step (pc' := 22) dX5_readLaw_21 rfl ?_
  refine ex_step (pc' := 23) (st' := [.int 4, .int x3]) dX5_readLaw_22 rfl ?_
  refine ex_icmp (pc' := 126) dX5_readLaw_23 (by decide) (fun c => ?_) (fun c => ?_)
  · have h := h.1 c
    exact ex_less (ls' := [some (.ref 2), some (.ref l1), some (.int x2), none, none]) ⟨rfl, ⟨rfl, ⟨rfl, trivial⟩⟩⟩ h
  · have h := h.2 c
    refine ex_step (pc' := 27) dX5_readLaw_26 rfl ?_
    refine ex_geti dX5_readLaw_27 wf_RX5_45 (ly_a2 hL) rfl ?_
    refine ex_if (pc' := 126) dX5_readLaw_30 (by decide) (fun c => ?_) (fun c => ?_)
    · have h := h.1 c
      exact ex_less (ls' := [some (.ref 2), some (.ref l1), some (.int x2), none, none]) ⟨rfl, ⟨rfl, ⟨rfl, trivial⟩⟩⟩ h
    · have h := h.2 (Classical.not_not.mp c)
      refine ex_step (pc' := 34) dX5_readLaw_33 rfl ?_
      refine ex_geti dX5_readLaw_34 wf_RX5_61 (ly_a2 hL) rfl ?_
      refine ex_step (pc' := 40) (st' := [.int 136, .int (I 2 4)]) dX5_readLaw_37 rfl ?_
      refine ex_icmp (pc' := 126) dX5_readLaw_40 (by decide) (fun c => ?_) (fun c => ?_)
      · have h := h.1 c
        exact ex_less (ls' := [some (.ref 2), some (.ref l1), some (.int x2), none, none]) ⟨rfl, ⟨rfl, ⟨rfl, trivial⟩⟩⟩ h
      · have h := h.2 (Classical.not_not.mp c)
        refine ex_step (pc' := 44) dX5_readLaw_43 rfl ?_
        refine ex_step (pc' := 45) (st' := [.int 4, .int x3]) dX5_readLaw_44 rfl ?_
        refine ex_icmp (pc' := 57) dX5_readLaw_45 (by decide) (fun c => ?_) (fun c => ?_)
        · have h := h.1 c
          exact h
        · have h := h.2 (Classical.not_not.mp c)
          refine ex_step (pc' := 49) dX5_readLaw_48 rfl ?_
          refine ex_step (pc' := 50) (st' := [.int 2, .ref 2]) dX5_readLaw_49 rfl ?_
          refine ex_step (pc' := 51) dX5_readLaw_50 rfl ?_
          refine ex_geti dX5_readLaw_51 wf_RX5_110 (ly_a2 hL) rfl ?_
          obtain ⟨I1, hc, h⟩ := h
          refine ex_callV (as := [.int 2, .int (I 2 5)]) (st := []) (ci := 5) dX5_readLaw_54 zmX5_fail zl_RX5_113 ziX5_fail zvX5_fail (by decide) (ly_a2 hL) rfl (Nat.le_of_ble_eq_true rfl) (Nat.le_of_ble_eq_true rfl) hc ?_
          exact h
set_option maxHeartbeats 4000000 in
theorem BX5_readLaw_57 {d : Nat} {Z : zZ} {I : zI} {J : zJ} {o : zO} {t u : Nat} {l1 : Nat} (x2 : Int32) (x3 : Int32) (hL : zLY Z t u) (hl1 : zLw Z l1) (h : (∃ (I1 : zI), zE (d + 4) kX5_take 0 [some (.ref 2), some (.int 136)] [] Z I J (none, Z, I1, J) ∧ (∃ (I2 : zI), zE (d + 4) kX5_readE 0 [some (.ref 2), none, none, none] [] Z I1 J (none, Z, I2, J) ∧ (∃ (I3 : zI), zE (d + 4) kX5_take 0 [some (.ref 2), some (.int 60)] [] Z I2 J (none, Z, I3, J) ∧ (∃ (I4 : zI), zE (d + 4) kX5_readE 0 [some (.ref 2), none, none, none] [] Z I3 J (none, Z, I4, J) ∧ (∃ (I5 : zI), zE (d + 4) kX2_add 0 [some (.ref l1), some (.int 3), some (.int 0)] [] Z I4 J (none, Z, I5, J) ∧ (∃ (I6 : zI), zE (d + 4) kX5_take 0 [some (.ref 2), some (.int 137)] [] Z I5 J (none, Z, I6, J) ∧ (∃ (I7 : zI), zE (d + 4) kX5_readE 0 [some (.ref 2), none, none, none] [] Z I6 J (none, Z, I7, J) ∧ (∃ (I8 : zI), zE (d + 4) kX2_add 0 [some (.ref l1), some (.int 0), some (.int 0)] [] Z I7 J (none, Z, I8, J) ∧ (∃ (I9 : zI), zE (d + 4) kX2_aim 0 [some (.ref l1), some (.int (I4 l1 0))] [] Z I8 J (none, Z, I9, J) ∧ (∃ (I10 : zI), zE (d + 4) kX5_take 0 [some (.ref 2), some (.int 138)] [] Z I9 J (none, Z, I10, J) ∧ zE (d + 5) kX5_readLaw 21 [some (.ref 2), some (.ref l1), some (.int x2), some (.int (x3 + 1)), none] [] Z I10 J o))))))))))) : zE (d + 5) kX5_readLaw 57 [some (.ref 2), some (.ref l1), some (.int x2), some (.int x3), none] [] Z I J o := by
  refine ex_step (pc' := 58) dX5_readLaw_57 rfl ?_
  refine ex_step (pc' := 61) (st' := [.int 136, .ref 2]) dX5_readLaw_58 rfl ?_
  obtain ⟨I1, hc, h⟩ := h
  refine ex_callV (as := [.int 136]) (st := []) (ci := 5) dX5_readLaw_61 zmX5_take zl_RX5_64 ziX5_take zvX5_take (by decide) (ly_a2 hL) rfl (Nat.le_of_ble_eq_true rfl) (Nat.le_of_ble_eq_true rfl) hc ?_
  refine ex_step (pc' := 65) dX5_readLaw_64 rfl ?_
  obtain ⟨I2, hc, h⟩ := h
  refine ex_callV (as := []) (st := []) (ci := 5) dX5_readLaw_65 zmX5_readE zl_RX5_189 ziX5_readE zvX5_readE (by decide) (ly_a2 hL) rfl (Nat.le_of_ble_eq_true rfl) (Nat.le_of_ble_eq_true rfl) hc ?_
  refine ex_step (pc' := 69) dX5_readLaw_68 rfl ?_
  refine ex_step (pc' := 71) (st' := [.int 60, .ref 2]) dX5_readLaw_69 rfl ?_
  obtain ⟨I3, hc, h⟩ := h
  refine ex_callV (as := [.int 60]) (st := []) (ci := 5) dX5_readLaw_71 zmX5_take zl_RX5_64 ziX5_take zvX5_take (by decide) (ly_a2 hL) rfl (Nat.le_of_ble_eq_true rfl) (Nat.le_of_ble_eq_true rfl) hc ?_
  refine ex_step (pc' := 75) dX5_readLaw_74 rfl ?_
  obtain ⟨I4, hc, h⟩ := h
  refine ex_callV (as := []) (st := []) (ci := 5) dX5_readLaw_75 zmX5_readE zl_RX5_189 ziX5_readE zvX5_readE (by decide) (ly_a2 hL) rfl (Nat.le_of_ble_eq_true rfl) (Nat.le_of_ble_eq_true rfl) hc ?_
  refine ex_step (pc' := 79) dX5_readLaw_78 rfl ?_
  refine ex_geti dX5_readLaw_79 wf_RX5_184 (zLw_o hl1) rfl ?_
  refine ex_step (pc' := 84) (ls' := [some (.ref 2), some (.ref l1), some (.int x2), some (.int x3), some (.int (I4 l1 0))]) dX5_readLaw_82 rfl ?_
  refine ex_step (pc' := 85) dX5_readLaw_84 rfl ?_
  refine ex_step (pc' := 86) (st' := [.int 3, .ref l1]) dX5_readLaw_85 rfl ?_
  refine ex_step (pc' := 87) (st' := [.int 0, .int 3, .ref l1]) dX5_readLaw_86 rfl ?_
  obtain ⟨I5, hc, h⟩ := h
  refine ex_callV (as := [.int 3, .int 0]) (st := []) (ci := 2) dX5_readLaw_87 zmX2_add zl_RX5_192 ziX2_add zvX2_add (by decide) (zLw_o hl1) rfl (Nat.le_of_ble_eq_true rfl) (Nat.le_of_ble_eq_true rfl) hc ?_
  refine ex_step (pc' := 91) dX5_readLaw_90 rfl ?_
  refine ex_step (pc' := 94) (st' := [.int 137, .ref 2]) dX5_readLaw_91 rfl ?_
  obtain ⟨I6, hc, h⟩ := h
  refine ex_callV (as := [.int 137]) (st := []) (ci := 5) dX5_readLaw_94 zmX5_take zl_RX5_64 ziX5_take zvX5_take (by decide) (ly_a2 hL) rfl (Nat.le_of_ble_eq_true rfl) (Nat.le_of_ble_eq_true rfl) hc ?_
  refine ex_step (pc' := 98) dX5_readLaw_97 rfl ?_
  obtain ⟨I7, hc, h⟩ := h
  refine ex_callV (as := []) (st := []) (ci := 5) dX5_readLaw_98 zmX5_readE zl_RX5_189 ziX5_readE zvX5_readE (by decide) (ly_a2 hL) rfl (Nat.le_of_ble_eq_true rfl) (Nat.le_of_ble_eq_true rfl) hc ?_
  refine ex_step (pc' := 102) dX5_readLaw_101 rfl ?_
  refine ex_step (pc' := 103) (st' := [.int 0, .ref l1]) dX5_readLaw_102 rfl ?_
  refine ex_step (pc' := 104) (st' := [.int 0, .int 0, .ref l1]) dX5_readLaw_103 rfl ?_
  obtain ⟨I8, hc, h⟩ := h
  refine ex_callV (as := [.int 0, .int 0]) (st := []) (ci := 2) dX5_readLaw_104 zmX2_add zl_RX5_192 ziX2_add zvX2_add (by decide) (zLw_o hl1) rfl (Nat.le_of_ble_eq_true rfl) (Nat.le_of_ble_eq_true rfl) hc ?_
  refine ex_step (pc' := 108) dX5_readLaw_107 rfl ?_
  refine ex_step (pc' := 110) dX5_readLaw_108 rfl ?_
  obtain ⟨I9, hc, h⟩ := h
  refine ex_callV (as := [.int (I4 l1 0)]) (st := []) (ci := 2) dX5_readLaw_110 zmX2_aim zl_RX5_195 ziX2_aim zvX2_aim (by decide) (zLw_o hl1) rfl (Nat.le_of_ble_eq_true rfl) (Nat.le_of_ble_eq_true rfl) hc ?_
  refine ex_step (pc' := 114) dX5_readLaw_113 rfl ?_
  refine ex_step (pc' := 117) (st' := [.int 138, .ref 2]) dX5_readLaw_114 rfl ?_
  obtain ⟨I10, hc, h⟩ := h
  refine ex_callV (as := [.int 138]) (st := []) (ci := 5) dX5_readLaw_117 zmX5_take zl_RX5_64 ziX5_take zvX5_take (by decide) (ly_a2 hL) rfl (Nat.le_of_ble_eq_true rfl) (Nat.le_of_ble_eq_true rfl) hc ?_
  refine ex_step (pc' := 123) (ls' := [some (.ref 2), some (.ref l1), some (.int x2), some (.int (x3 + 1)), some (.int (I4 l1 0))]) dX5_readLaw_120 rfl ?_
  refine ex_step (pc' := 21) dX5_readLaw_123 rfl ?_
  exact ex_less (ls' := [some (.ref 2), some (.ref l1), some (.int x2), some (.int (x3 + 1)), none]) ⟨rfl, ⟨rfl, ⟨rfl, ⟨rfl, trivial⟩⟩⟩⟩ h
set_option maxHeartbeats 4000000 in
theorem BX5_readLaw_126 {d : Nat} {Z : zZ} {I : zI} {J : zJ} {o : zO} {t u : Nat} {l1 : Nat} (x2 : Int32) (hL : zLY Z t u) (hl1 : zLw Z l1) (h : (∃ (I1 : zI), zE (d + 4) kX5_readE 0 [some (.ref 2), none, none, none] [] Z I J (none, Z, I1, J) ∧ (∃ (I2 : zI), zE (d + 4) kX2_add 0 [some (.ref l1), some (.int 0), some (.int 0)] [] Z I1 J (none, Z, I2, J) ∧ o = (some (.int x2), Z, I2, J)))) : zE (d + 5) kX5_readLaw 126 [some (.ref 2), some (.ref l1), some (.int x2), none, none] [] Z I J o := by
  refine ex_step (pc' := 127) dX5_readLaw_126 rfl ?_
  obtain ⟨I1, hc, h⟩ := h
  refine ex_callV (as := []) (st := []) (ci := 5) dX5_readLaw_127 zmX5_readE zl_RX5_189 ziX5_readE zvX5_readE (by decide) (ly_a2 hL) rfl (Nat.le_of_ble_eq_true rfl) (Nat.le_of_ble_eq_true rfl) hc ?_
  refine ex_step (pc' := 131) dX5_readLaw_130 rfl ?_
  refine ex_step (pc' := 132) (st' := [.int 0, .ref l1]) dX5_readLaw_131 rfl ?_
  refine ex_step (pc' := 133) (st' := [.int 0, .int 0, .ref l1]) dX5_readLaw_132 rfl ?_
  obtain ⟨I2, hc, h⟩ := h
  refine ex_callV (as := [.int 0, .int 0]) (st := []) (ci := 2) dX5_readLaw_133 zmX2_add zl_RX5_192 ziX2_add zvX2_add (by decide) (zLw_o hl1) rfl (Nat.le_of_ble_eq_true rfl) (Nat.le_of_ble_eq_true rfl) hc ?_
  refine ex_step (pc' := 137) dX5_readLaw_136 rfl ?_
  rw [h]; exact ex_ret (v := some (.int x2)) ⟨dX5_readLaw_137, _, rfl, rfl⟩
set_option maxHeartbeats 4000000 in
theorem BX5_readE_0 {d : Nat} {Z : zZ} {I : zI} {J : zJ} {o : zO} {t u : Nat}  (hL : zLY Z t u)  (h : (∀ I1 : zI, I1 = zu I 2 14 0 → (∀ I2 : zI, I2 = zu I1 2 15 0 → zE (d + 4) kX5_readE 16 [some (.ref 2), some (.int 1), some (.int 1), some (.int 0)] [] Z I2 J o))) : zE (d + 4) kX5_readE 0 [some (.ref 2), none, none, none] [] Z I J o := by
  refine ex_step (pc' := 1) dX5_readE_0 rfl ?_
  refine ex_step (pc' := 2) (st' := [.int 0, .ref 2]) dX5_readE_1 rfl ?_
  refine ex_putiN dX5_readE_2 (wp_RX5_198 _) (ly_a2 hL) rfl ⟨rfl, rfl⟩ (fun I1 eI1 => ?_)
  have h := h I1 eI1
  refine ex_step (pc' := 6) dX5_readE_5 rfl ?_
  refine ex_step (pc' := 7) (st' := [.int 0, .ref 2]) dX5_readE_6 rfl ?_
  refine ex_putiN dX5_readE_7 (wp_RX5_201 _) (ly_a2 hL) rfl ⟨rfl, rfl⟩ (fun I2 eI2 => ?_)
  have h := h I2 eI2
  refine ex_step (pc' := 11) (st' := [.int 1]) dX5_readE_10 rfl ?_
  refine ex_step (pc' := 12) (ls' := [some (.ref 2), some (.int 1), none, none]) dX5_readE_11 rfl ?_
  refine ex_step (pc' := 13) (st' := [.int 1]) dX5_readE_12 rfl ?_
  refine ex_step (pc' := 14) (ls' := [some (.ref 2), some (.int 1), some (.int 1), none]) dX5_readE_13 rfl ?_
  refine ex_step (pc' := 15) (st' := [.int 0]) dX5_readE_14 rfl ?_
  refine ex_step (pc' := 16) (ls' := [some (.ref 2), some (.int 1), some (.int 1), some (.int 0)]) dX5_readE_15 rfl ?_
  exact h
set_option maxHeartbeats 4000000 in
theorem BX5_readE_16 {d : Nat} {Z : zZ} {I : zI} {J : zJ} {o : zO} {t u : Nat} (x1 : Int32) (x2 : Int32) (x3 : Int32) (hL : zLY Z t u)  (h : ((400 < x3 → (∃ (I1 : zI), zE (d + 3) kX5_release 0 [some (.ref 2), some (.int 1), none] [] Z I J (none, Z, I1, J) ∧ o = (none, Z, I1, J))) ∧ (¬ 400 < x3 → ((x2 = 0 → (∃ (I2 : zI), zE (d + 3) kX5_release 0 [some (.ref 2), some (.int 1), none] [] Z I J (none, Z, I2, J) ∧ o = (none, Z, I2, J))) ∧ (¬ x2 = 0 → ((¬ (I 2 6) = 0 → (∃ (I3 : zI), zE (d + 3) kX5_release 0 [some (.ref 2), some (.int 1), none] [] Z I J (none, Z, I3, J) ∧ o = (none, Z, I3, J))) ∧ ((I 2 6) = 0 → ((x1 = 0 → (((zbind (I 2 4)) ≤ 0 → (((I 2 15) ≤ 0 → zE (d + 4) kX5_readE 16 [some (.ref 2), some (.int x1), some (.int 0), some (.int (x3 + 1))] [] Z I J o) ∧ (¬ (I 2 15) ≤ 0 → (∃ (I4 : zI), zE (d + 3) kX5_readClosing 0 [some (.ref 2)] [] Z I J (none, Z, I4, J) ∧ zE (d + 4) kX5_readE 16 [some (.ref 2), some (.int x1), some (.int x2), some (.int (x3 + 1))] [] Z I4 J o)))) ∧ (¬ (zbind (I 2 4)) ≤ 0 → (∃ (I5 : zI), zE (d + 3) kX5_readOperator 0 [some (.ref 2)] [] Z I J (none, Z, I5, J) ∧ zE (d + 4) kX5_readE 16 [some (.ref 2), some (.int 1), some (.int x2), some (.int (x3 + 1))] [] Z I5 J o)))) ∧ (¬ x1 = 0 → (∃ (v6 : Int32) (I7 : zI), zE (d + 3) kX5_readUnit 0 [some (.ref 2)] [] Z I J (some (.int v6), Z, I7, J) ∧ zE (d + 4) kX5_readE 16 [some (.ref 2), some (.int v6), some (.int x2), some (.int (x3 + 1))] [] Z I7 J o)))))))))) : zE (d + 4) kX5_readE 16 [some (.ref 2), some (.int x1), some (.int x2), some (.int x3)] [] Z I J o := by
  refine ex_step (pc' := 17) dX5_readE_16 rfl ?_
  refine ex_step (pc' := 20) (st' := [.int 400, .int x3]) dX5_readE_17 rfl ?_
  refine ex_icmp (pc' := 87) dX5_readE_20 (by decide) (fun c => ?_) (fun c => ?_)
  · have h := h.1 c
    refine ex_step (pc' := 88) dX5_readE_87 rfl ?_
    refine ex_step (pc' := 89) (st' := [.int 1, .ref 2]) dX5_readE_88 rfl ?_
    obtain ⟨I1, hc, h⟩ := h
    refine ex_callV (as := [.int 1]) (st := []) (ci := 5) dX5_readE_89 zmX5_release zl_RX5_218 ziX5_release zvX5_release (by decide) (ly_a2 hL) rfl (Nat.le_of_ble_eq_true rfl) (Nat.le_of_ble_eq_true rfl) hc ?_
    rw [h]; exact ex_ret (v := none) ⟨dX5_readE_92, rfl⟩
  · have h := h.2 c
    refine ex_step (pc' := 24) dX5_readE_23 rfl ?_
    refine ex_if (pc' := 87) dX5_readE_24 (by decide) (fun c => ?_) (fun c => ?_)
    · have h := h.1 c
      refine ex_step (pc' := 88) dX5_readE_87 rfl ?_
      refine ex_step (pc' := 89) (st' := [.int 1, .ref 2]) dX5_readE_88 rfl ?_
      obtain ⟨I2, hc, h⟩ := h
      refine ex_callV (as := [.int 1]) (st := []) (ci := 5) dX5_readE_89 zmX5_release zl_RX5_218 ziX5_release zvX5_release (by decide) (ly_a2 hL) rfl (Nat.le_of_ble_eq_true rfl) (Nat.le_of_ble_eq_true rfl) hc ?_
      rw [h]; exact ex_ret (v := none) ⟨dX5_readE_92, rfl⟩
    · have h := h.2 c
      refine ex_step (pc' := 28) dX5_readE_27 rfl ?_
      refine ex_geti dX5_readE_28 wf_RX5_45 (ly_a2 hL) rfl ?_
      refine ex_if (pc' := 87) dX5_readE_31 (by decide) (fun c => ?_) (fun c => ?_)
      · have h := h.1 c
        refine ex_step (pc' := 88) dX5_readE_87 rfl ?_
        refine ex_step (pc' := 89) (st' := [.int 1, .ref 2]) dX5_readE_88 rfl ?_
        obtain ⟨I3, hc, h⟩ := h
        refine ex_callV (as := [.int 1]) (st := []) (ci := 5) dX5_readE_89 zmX5_release zl_RX5_218 ziX5_release zvX5_release (by decide) (ly_a2 hL) rfl (Nat.le_of_ble_eq_true rfl) (Nat.le_of_ble_eq_true rfl) hc ?_
        rw [h]; exact ex_ret (v := none) ⟨dX5_readE_92, rfl⟩
      · have h := h.2 (Classical.not_not.mp c)
        refine ex_step (pc' := 35) dX5_readE_34 rfl ?_
        refine ex_if (pc' := 46) dX5_readE_35 (by decide) (fun c => ?_) (fun c => ?_)
        · have h := h.1 c
          refine ex_step (pc' := 47) dX5_readE_46 rfl ?_
          refine ex_geti dX5_readE_47 wf_RX5_61 (ly_a2 hL) rfl ?_
          refine ex_callS (as := [.int (I 2 4)]) (st := []) dX5_readE_50 zmX5_bindingOf zl_RX5_208 zsX5_bindingOf rfl (Nat.le_of_ble_eq_true rfl) (Nat.le_of_ble_eq_true rfl) S_bindingOf ?_
          refine ex_if (pc' := 65) dX5_readE_53 (by decide) (fun c => ?_) (fun c => ?_)
          · have h := h.1 c
            refine ex_step (pc' := 66) dX5_readE_65 rfl ?_
            refine ex_geti dX5_readE_66 wf_RX5_201 (ly_a2 hL) rfl ?_
            refine ex_if (pc' := 79) dX5_readE_69 (by decide) (fun c => ?_) (fun c => ?_)
            · have h := h.1 c
              refine ex_step (pc' := 80) (st' := [.int 0]) dX5_readE_79 rfl ?_
              refine ex_step (pc' := 81) (ls' := [some (.ref 2), some (.int x1), some (.int 0), some (.int x3)]) dX5_readE_80 rfl ?_
              refine ex_step (pc' := 84) (ls' := [some (.ref 2), some (.int x1), some (.int 0), some (.int (x3 + 1))]) dX5_readE_81 rfl ?_
              refine ex_step (pc' := 16) dX5_readE_84 rfl ?_
              exact h
            · have h := h.2 c
              refine ex_step (pc' := 73) dX5_readE_72 rfl ?_
              obtain ⟨I4, hc, h⟩ := h
              refine ex_callV (as := []) (st := []) (ci := 5) dX5_readE_73 zmX5_readClosing zl_RX5_215 ziX5_readClosing zvX5_readClosing (by decide) (ly_a2 hL) rfl (Nat.le_of_ble_eq_true rfl) (Nat.le_of_ble_eq_true rfl) hc ?_
              refine ex_step (pc' := 81) dX5_readE_76 rfl ?_
              refine ex_step (pc' := 84) (ls' := [some (.ref 2), some (.int x1), some (.int x2), some (.int (x3 + 1))]) dX5_readE_81 rfl ?_
              refine ex_step (pc' := 16) dX5_readE_84 rfl ?_
              exact h
          · have h := h.2 c
            refine ex_step (pc' := 57) dX5_readE_56 rfl ?_
            obtain ⟨I5, hc, h⟩ := h
            refine ex_callV (as := []) (st := []) (ci := 5) dX5_readE_57 zmX5_readOperator zl_RX5_212 ziX5_readOperator zvX5_readOperator (by decide) (ly_a2 hL) rfl (Nat.le_of_ble_eq_true rfl) (Nat.le_of_ble_eq_true rfl) hc ?_
            refine ex_step (pc' := 61) (st' := [.int 1]) dX5_readE_60 rfl ?_
            refine ex_step (pc' := 62) (ls' := [some (.ref 2), some (.int 1), some (.int x2), some (.int x3)]) dX5_readE_61 rfl ?_
            refine ex_step (pc' := 81) dX5_readE_62 rfl ?_
            refine ex_step (pc' := 84) (ls' := [some (.ref 2), some (.int 1), some (.int x2), some (.int (x3 + 1))]) dX5_readE_81 rfl ?_
            refine ex_step (pc' := 16) dX5_readE_84 rfl ?_
            exact h
        · have h := h.2 c
          refine ex_step (pc' := 39) dX5_readE_38 rfl ?_
          obtain ⟨v6, I7, hc, h⟩ := h
          refine ex_callV (as := []) (st := []) (ci := 5) dX5_readE_39 zmX5_readUnit zl_RX5_204 ziX5_readUnit zvX5_readUnit (by decide) (ly_a2 hL) rfl (Nat.le_of_ble_eq_true rfl) (Nat.le_of_ble_eq_true rfl) hc ?_
          refine ex_step (pc' := 43) (ls' := [some (.ref 2), some (.int v6), some (.int x2), some (.int x3)]) dX5_readE_42 rfl ?_
          refine ex_step (pc' := 81) dX5_readE_43 rfl ?_
          refine ex_step (pc' := 84) (ls' := [some (.ref 2), some (.int v6), some (.int x2), some (.int (x3 + 1))]) dX5_readE_81 rfl ?_
          refine ex_step (pc' := 16) dX5_readE_84 rfl ?_
          exact h
set_option maxHeartbeats 4000000 in
theorem BX5_readUnit_0 {d : Nat} {Z : zZ} {I : zI} {J : zJ} {o : zO} {t u : Nat}  (hL : zLY Z t u)  (h : ((¬ (I 2 4) = 3 → (((I 2 4) < 139 → zE (d + 3) kX5_readUnit 92 [some (.ref 2)] [] Z I J o) ∧ (¬ (I 2 4) < 139 → ((144 < (I 2 4) → zE (d + 3) kX5_readUnit 92 [some (.ref 2)] [] Z I J o) ∧ (¬ 144 < (I 2 4) → (∃ (I1 : zI), zE (d + 2) kX2_add 0 [some (.ref (u + 1)), some (.int 2), some (.int ((I 2 4) - 139))] [] Z I J (none, Z, I1, J) ∧ (∃ (I2 : zI), zE (d + 2) kX5_take 0 [some (.ref 2), some (.int (I1 2 4))] [] Z I1 J (none, Z, I2, J) ∧ o = (some (.int 0), Z, I2, J)))))))) ∧ ((I 2 4) = 3 → (∃ (I3 : zI), zE (d + 2) kX2_add 0 [some (.ref (u + 1)), some (.int 1), some (.int (zat I 23 402 (I 2 3)))] [] Z I J (none, Z, I3, J) ∧ (∃ (I4 : zI), zE (d + 2) kX5_take 0 [some (.ref 2), some (.int (I3 2 4))] [] Z I3 J (none, Z, I4, J) ∧ o = (some (.int 0), Z, I4, J)))))) : zE (d + 3) kX5_readUnit 0 [some (.ref 2)] [] Z I J o := by
  refine ex_step (pc' := 1) dX5_readUnit_0 rfl ?_
  refine ex_geti dX5_readUnit_1 wf_RX5_61 (ly_a2 hL) rfl ?_
  refine ex_step (pc' := 5) (st' := [.int 3, .int (I 2 4)]) dX5_readUnit_4 rfl ?_
  refine ex_icmp (pc' := 43) dX5_readUnit_5 (by decide) (fun c => ?_) (fun c => ?_)
  · have h := h.1 c
    refine ex_step (pc' := 44) dX5_readUnit_43 rfl ?_
    refine ex_geti dX5_readUnit_44 wf_RX5_61 (ly_a2 hL) rfl ?_
    refine ex_step (pc' := 50) (st' := [.int 139, .int (I 2 4)]) dX5_readUnit_47 rfl ?_
    refine ex_icmp (pc' := 92) dX5_readUnit_50 (by decide) (fun c => ?_) (fun c => ?_)
    · have h := h.1 c
      exact h
    · have h := h.2 c
      refine ex_step (pc' := 54) dX5_readUnit_53 rfl ?_
      refine ex_geti dX5_readUnit_54 wf_RX5_61 (ly_a2 hL) rfl ?_
      refine ex_step (pc' := 60) (st' := [.int 144, .int (I 2 4)]) dX5_readUnit_57 rfl ?_
      refine ex_icmp (pc' := 92) dX5_readUnit_60 (by decide) (fun c => ?_) (fun c => ?_)
      · have h := h.1 c
        exact h
      · have h := h.2 c
        refine ex_step (pc' := 64) dX5_readUnit_63 rfl ?_
        refine ex_getr dX5_readUnit_64 wf_RX5_14 (ly_a2 hL) rfl (ly_rtext hL) ?_
        refine ex_getr dX5_readUnit_67 wf_RX5_180 (zTx_o (ly_ux hL)) rfl (zTx_r6 (ly_ux hL)) ?_
        refine ex_step (pc' := 71) (st' := [.int 2, .ref (u + 1)]) dX5_readUnit_70 rfl ?_
        refine ex_step (pc' := 72) dX5_readUnit_71 rfl ?_
        refine ex_geti dX5_readUnit_72 wf_RX5_61 (ly_a2 hL) rfl ?_
        refine ex_step (pc' := 78) (st' := [.int 139, .int (I 2 4), .int 2, .ref (u + 1)]) dX5_readUnit_75 rfl ?_
        refine ex_step (pc' := 79) dX5_readUnit_78 rfl ?_
        obtain ⟨I1, hc, h⟩ := h
        refine ex_callV (as := [.int 2, .int ((I 2 4) - 139)]) (st := []) (ci := 2) dX5_readUnit_79 zmX2_add zl_RX5_192 ziX2_add zvX2_add (by decide) (zLw_o (zTx_l (ly_ux hL))) rfl (Nat.le_of_ble_eq_true rfl) (Nat.le_of_ble_eq_true rfl) hc ?_
        refine ex_step (pc' := 83) dX5_readUnit_82 rfl ?_
        refine ex_step (pc' := 84) dX5_readUnit_83 rfl ?_
        refine ex_geti dX5_readUnit_84 wf_RX5_61 (ly_a2 hL) rfl ?_
        obtain ⟨I2, hc, h⟩ := h
        refine ex_callV (as := [.int (I1 2 4)]) (st := []) (ci := 5) dX5_readUnit_87 zmX5_take zl_RX5_64 ziX5_take zvX5_take (by decide) (ly_a2 hL) rfl (Nat.le_of_ble_eq_true rfl) (Nat.le_of_ble_eq_true rfl) hc ?_
        refine ex_step (pc' := 91) (st' := [.int 0]) dX5_readUnit_90 rfl ?_
        rw [h]; exact ex_ret (v := some (.int 0)) ⟨dX5_readUnit_91, _, rfl, rfl⟩
  · have h := h.2 (Classical.not_not.mp c)
    refine ex_step (pc' := 9) dX5_readUnit_8 rfl ?_
    refine ex_getr dX5_readUnit_9 wf_RX5_14 (ly_a2 hL) rfl (ly_rtext hL) ?_
    refine ex_getr dX5_readUnit_12 wf_RX5_180 (zTx_o (ly_ux hL)) rfl (zTx_r6 (ly_ux hL)) ?_
    refine ex_step (pc' := 16) (st' := [.int 1, .ref (u + 1)]) dX5_readUnit_15 rfl ?_
    refine ex_step (pc' := 17) dX5_readUnit_16 rfl ?_
    refine ex_getr dX5_readUnit_17 wf_RX5_21 (ly_a2 hL) rfl (ly_r2_2 hL) ?_
    refine ex_getr dX5_readUnit_20 wf_RX5_143 (ly_a20 hL) rfl (ly_r20_2 hL) ?_
    refine ex_step (pc' := 24) dX5_readUnit_23 rfl ?_
    refine ex_geti dX5_readUnit_24 wf_RX5_55 (ly_a2 hL) rfl ?_
    refine ex_callS (as := [.ref 23, .int (I 2 3)]) (st := [.int 1, .ref (u + 1)]) dX5_readUnit_27 zmX11_at zl_RX5_126 zsX11_at rfl (Nat.le_of_ble_eq_true rfl) (Nat.le_of_ble_eq_true rfl) (S_at' (by decide) (ly_a23 hL)) ?_
    obtain ⟨I3, hc, h⟩ := h
    refine ex_callV (as := [.int 1, .int (zat I 23 402 (I 2 3))]) (st := []) (ci := 2) dX5_readUnit_30 zmX2_add zl_RX5_192 ziX2_add zvX2_add (by decide) (zLw_o (zTx_l (ly_ux hL))) rfl (Nat.le_of_ble_eq_true rfl) (Nat.le_of_ble_eq_true rfl) hc ?_
    refine ex_step (pc' := 34) dX5_readUnit_33 rfl ?_
    refine ex_step (pc' := 35) dX5_readUnit_34 rfl ?_
    refine ex_geti dX5_readUnit_35 wf_RX5_61 (ly_a2 hL) rfl ?_
    obtain ⟨I4, hc, h⟩ := h
    refine ex_callV (as := [.int (I3 2 4)]) (st := []) (ci := 5) dX5_readUnit_38 zmX5_take zl_RX5_64 ziX5_take zvX5_take (by decide) (ly_a2 hL) rfl (Nat.le_of_ble_eq_true rfl) (Nat.le_of_ble_eq_true rfl) hc ?_
    refine ex_step (pc' := 42) (st' := [.int 0]) dX5_readUnit_41 rfl ?_
    rw [h]; exact ex_ret (v := some (.int 0)) ⟨dX5_readUnit_42, _, rfl, rfl⟩
set_option maxHeartbeats 4000000 in
theorem BX5_readUnit_92 {d : Nat} {Z : zZ} {I : zI} {J : zJ} {o : zO} {t u : Nat}  (hL : zLY Z t u)  (h : ((¬ (I 2 4) = 40 → zE (d + 3) kX5_readUnit 119 [some (.ref 2)] [] Z I J o) ∧ ((I 2 4) = 40 → (((I 2 15) < 6 → zE (d + 3) kX5_readUnit 119 [some (.ref 2)] [] Z I J o) ∧ (¬ (I 2 15) < 6 → (∃ (I1 : zI), zE (d + 2) kX5_fail 0 [some (.ref 2), some (.int 2), some (.int (I 2 5))] [] Z I J (none, Z, I1, J) ∧ zE (d + 3) kX5_readUnit 119 [some (.ref 2)] [] Z I1 J o)))))) : zE (d + 3) kX5_readUnit 92 [some (.ref 2)] [] Z I J o := by
  refine ex_step (pc' := 93) dX5_readUnit_92 rfl ?_
  refine ex_geti dX5_readUnit_93 wf_RX5_61 (ly_a2 hL) rfl ?_
  refine ex_step (pc' := 98) (st' := [.int 40, .int (I 2 4)]) dX5_readUnit_96 rfl ?_
  refine ex_icmp (pc' := 119) dX5_readUnit_98 (by decide) (fun c => ?_) (fun c => ?_)
  · have h := h.1 c
    exact h
  · have h := h.2 (Classical.not_not.mp c)
    refine ex_step (pc' := 102) dX5_readUnit_101 rfl ?_
    refine ex_geti dX5_readUnit_102 wf_RX5_201 (ly_a2 hL) rfl ?_
    refine ex_step (pc' := 107) (st' := [.int 6, .int (I 2 15)]) dX5_readUnit_105 rfl ?_
    refine ex_icmp (pc' := 119) dX5_readUnit_107 (by decide) (fun c => ?_) (fun c => ?_)
    · have h := h.1 c
      exact h
    · have h := h.2 c
      refine ex_step (pc' := 111) dX5_readUnit_110 rfl ?_
      refine ex_step (pc' := 112) (st' := [.int 2, .ref 2]) dX5_readUnit_111 rfl ?_
      refine ex_step (pc' := 113) dX5_readUnit_112 rfl ?_
      refine ex_geti dX5_readUnit_113 wf_RX5_110 (ly_a2 hL) rfl ?_
      obtain ⟨I1, hc, h⟩ := h
      refine ex_callV (as := [.int 2, .int (I 2 5)]) (st := []) (ci := 5) dX5_readUnit_116 zmX5_fail zl_RX5_113 ziX5_fail zvX5_fail (by decide) (ly_a2 hL) rfl (Nat.le_of_ble_eq_true rfl) (Nat.le_of_ble_eq_true rfl) hc ?_
      exact h
set_option maxHeartbeats 4000000 in
theorem BX5_readUnit_119 {d : Nat} {Z : zZ} {I : zI} {J : zJ} {o : zO} {t u : Nat}  (hL : zLY Z t u)  (h : (∃ (I1 : zI), zE (d + 2) kX5_take 0 [some (.ref 2), some (.int 40)] [] Z I J (none, Z, I1, J) ∧ (∀ I2 : zI, I2 = zu I1 2 15 ((I1 2 15) + 1) → (∃ (I3 : zI), zE (d + 2) kX5_lineUp 0 [some (.ref 2), some (.int 40)] [] Z I2 J (none, Z, I3, J) ∧ o = (some (.int 1), Z, I3, J))))) : zE (d + 3) kX5_readUnit 119 [some (.ref 2)] [] Z I J o := by
  refine ex_step (pc' := 120) dX5_readUnit_119 rfl ?_
  refine ex_step (pc' := 122) (st' := [.int 40, .ref 2]) dX5_readUnit_120 rfl ?_
  obtain ⟨I1, hc, h⟩ := h
  refine ex_callV (as := [.int 40]) (st := []) (ci := 5) dX5_readUnit_122 zmX5_take zl_RX5_64 ziX5_take zvX5_take (by decide) (ly_a2 hL) rfl (Nat.le_of_ble_eq_true rfl) (Nat.le_of_ble_eq_true rfl) hc ?_
  refine ex_step (pc' := 126) dX5_readUnit_125 rfl ?_
  refine ex_step (pc' := 127) dX5_readUnit_126 rfl ?_
  refine ex_geti dX5_readUnit_127 wf_RX5_201 (ly_a2 hL) rfl ?_
  refine ex_step (pc' := 131) (st' := [.int 1, .int (I1 2 15), .ref 2]) dX5_readUnit_130 rfl ?_
  refine ex_step (pc' := 132) dX5_readUnit_131 rfl ?_
  refine ex_putiN dX5_readUnit_132 (wp_RX5_201 _) (ly_a2 hL) rfl ⟨rfl, rfl⟩ (fun I2 eI2 => ?_)
  have h := h I2 eI2
  refine ex_step (pc' := 136) dX5_readUnit_135 rfl ?_
  refine ex_step (pc' := 138) (st' := [.int 40, .ref 2]) dX5_readUnit_136 rfl ?_
  obtain ⟨I3, hc, h⟩ := h
  refine ex_callV (as := [.int 40]) (st := []) (ci := 5) dX5_readUnit_138 zmX5_lineUp zl_RX5_221 ziX5_lineUp zvX5_lineUp (by decide) (ly_a2 hL) rfl (Nat.le_of_ble_eq_true rfl) (Nat.le_of_ble_eq_true rfl) hc ?_
  refine ex_step (pc' := 142) (st' := [.int 1]) dX5_readUnit_141 rfl ?_
  rw [h]; exact ex_ret (v := some (.int 1)) ⟨dX5_readUnit_142, _, rfl, rfl⟩
set_option maxHeartbeats 4000000 in
theorem BX5_readOperator_0 {d : Nat} {Z : zZ} {I : zI} {J : zJ} {o : zO} {t u : Nat}  (hL : zLY Z t u)  (h : (∃ (I1 : zI), zE (d + 2) kX5_release 0 [some (.ref 2), some (.int (zbind (I 2 4))), none] [] Z I J (none, Z, I1, J) ∧ (∃ (I2 : zI), zE (d + 2) kX5_lineUp 0 [some (.ref 2), some (.int (I1 2 4))] [] Z I1 J (none, Z, I2, J) ∧ (∃ (I3 : zI), zE (d + 2) kX5_take 0 [some (.ref 2), some (.int (I2 2 4))] [] Z I2 J (none, Z, I3, J) ∧ o = (none, Z, I3, J))))) : zE (d + 3) kX5_readOperator 0 [some (.ref 2)] [] Z I J o := by
  refine ex_step (pc' := 1) dX5_readOperator_0 rfl ?_
  refine ex_step (pc' := 2) dX5_readOperator_1 rfl ?_
  refine ex_geti dX5_readOperator_2 wf_RX5_61 (ly_a2 hL) rfl ?_
  refine ex_callS (as := [.int (I 2 4)]) (st := [.ref 2]) dX5_readOperator_5 zmX5_bindingOf zl_RX5_208 zsX5_bindingOf rfl (Nat.le_of_ble_eq_true rfl) (Nat.le_of_ble_eq_true rfl) S_bindingOf ?_
  obtain ⟨I1, hc, h⟩ := h
  refine ex_callV (as := [.int (zbind (I 2 4))]) (st := []) (ci := 5) dX5_readOperator_8 zmX5_release zl_RX5_218 ziX5_release zvX5_release (by decide) (ly_a2 hL) rfl (Nat.le_of_ble_eq_true rfl) (Nat.le_of_ble_eq_true rfl) hc ?_
  refine ex_step (pc' := 12) dX5_readOperator_11 rfl ?_
  refine ex_step (pc' := 13) dX5_readOperator_12 rfl ?_
  refine ex_geti dX5_readOperator_13 wf_RX5_61 (ly_a2 hL) rfl ?_
  obtain ⟨I2, hc, h⟩ := h
  refine ex_callV (as := [.int (I1 2 4)]) (st := []) (ci := 5) dX5_readOperator_16 zmX5_lineUp zl_RX5_221 ziX5_lineUp zvX5_lineUp (by decide) (ly_a2 hL) rfl (Nat.le_of_ble_eq_true rfl) (Nat.le_of_ble_eq_true rfl) hc ?_
  refine ex_step (pc' := 20) dX5_readOperator_19 rfl ?_
  refine ex_step (pc' := 21) dX5_readOperator_20 rfl ?_
  refine ex_geti dX5_readOperator_21 wf_RX5_61 (ly_a2 hL) rfl ?_
  obtain ⟨I3, hc, h⟩ := h
  refine ex_callV (as := [.int (I2 2 4)]) (st := []) (ci := 5) dX5_readOperator_24 zmX5_take zl_RX5_64 ziX5_take zvX5_take (by decide) (ly_a2 hL) rfl (Nat.le_of_ble_eq_true rfl) (Nat.le_of_ble_eq_true rfl) hc ?_
  rw [h]; exact ex_ret (v := none) ⟨dX5_readOperator_27, rfl⟩
set_option maxHeartbeats 4000000 in
theorem BX5_readClosing_0 {d : Nat} {Z : zZ} {I : zI} {J : zJ} {o : zO} {t u : Nat}  (hL : zLY Z t u)  (h : (∃ (I1 : zI), zE (d + 2) kX5_take 0 [some (.ref 2), some (.int 41)] [] Z I J (none, Z, I1, J) ∧ (∃ (I2 : zI), zE (d + 2) kX5_release 0 [some (.ref 2), some (.int 1), none] [] Z I1 J (none, Z, I2, J) ∧ (∀ I3 : zI, I3 = zu I2 2 14 ((I2 2 14) - 1) → (∀ I4 : zI, I4 = zu I3 2 15 ((I3 2 15) - 1) → o = (none, Z, I4, J)))))) : zE (d + 3) kX5_readClosing 0 [some (.ref 2)] [] Z I J o := by
  refine ex_step (pc' := 1) dX5_readClosing_0 rfl ?_
  refine ex_step (pc' := 3) (st' := [.int 41, .ref 2]) dX5_readClosing_1 rfl ?_
  obtain ⟨I1, hc, h⟩ := h
  refine ex_callV (as := [.int 41]) (st := []) (ci := 5) dX5_readClosing_3 zmX5_take zl_RX5_64 ziX5_take zvX5_take (by decide) (ly_a2 hL) rfl (Nat.le_of_ble_eq_true rfl) (Nat.le_of_ble_eq_true rfl) hc ?_
  refine ex_step (pc' := 7) dX5_readClosing_6 rfl ?_
  refine ex_step (pc' := 8) (st' := [.int 1, .ref 2]) dX5_readClosing_7 rfl ?_
  obtain ⟨I2, hc, h⟩ := h
  refine ex_callV (as := [.int 1]) (st := []) (ci := 5) dX5_readClosing_8 zmX5_release zl_RX5_218 ziX5_release zvX5_release (by decide) (ly_a2 hL) rfl (Nat.le_of_ble_eq_true rfl) (Nat.le_of_ble_eq_true rfl) hc ?_
  refine ex_step (pc' := 12) dX5_readClosing_11 rfl ?_
  refine ex_step (pc' := 13) dX5_readClosing_12 rfl ?_
  refine ex_geti dX5_readClosing_13 wf_RX5_198 (ly_a2 hL) rfl ?_
  refine ex_step (pc' := 17) (st' := [.int 1, .int (I2 2 14), .ref 2]) dX5_readClosing_16 rfl ?_
  refine ex_step (pc' := 18) dX5_readClosing_17 rfl ?_
  refine ex_putiN dX5_readClosing_18 (wp_RX5_198 _) (ly_a2 hL) rfl ⟨rfl, rfl⟩ (fun I3 eI3 => ?_)
  have h := h I3 eI3
  refine ex_step (pc' := 22) dX5_readClosing_21 rfl ?_
  refine ex_step (pc' := 23) dX5_readClosing_22 rfl ?_
  refine ex_geti dX5_readClosing_23 wf_RX5_201 (ly_a2 hL) rfl ?_
  refine ex_step (pc' := 27) (st' := [.int 1, .int (I3 2 15), .ref 2]) dX5_readClosing_26 rfl ?_
  refine ex_step (pc' := 28) dX5_readClosing_27 rfl ?_
  refine ex_putiN dX5_readClosing_28 (wp_RX5_201 _) (ly_a2 hL) rfl ⟨rfl, rfl⟩ (fun I4 eI4 => ?_)
  have h := h I4 eI4
  rw [h]; exact ex_ret (v := none) ⟨dX5_readClosing_31, rfl⟩
set_option maxHeartbeats 4000000 in
theorem BX5_lineUp_0 {d : Nat} {Z : zZ} {I : zI} {J : zJ} {o : zO} {t u : Nat} (x1 : Int32) (hL : zLY Z t u)  (h : (∀ I1 : zI, I1 = zpt I 29 20 (I 2 14) x1 → (∀ I2 : zI, I2 = zu I1 2 14 ((I1 2 14) + 1) → o = (none, Z, I2, J)))) : zE (d + 1) kX5_lineUp 0 [some (.ref 2), some (.int x1)] [] Z I J o := by
  refine ex_step (pc' := 1) dX5_lineUp_0 rfl ?_
  refine ex_getr dX5_lineUp_1 wf_RX5_35 (ly_a2 hL) rfl (ly_r2_13 hL) ?_
  refine ex_step (pc' := 5) dX5_lineUp_4 rfl ?_
  refine ex_geti dX5_lineUp_5 wf_RX5_198 (ly_a2 hL) rfl ?_
  refine ex_step (pc' := 9) dX5_lineUp_8 rfl ?_
  obtain ⟨I1, eI1⟩ : ∃ q : zI, q = zpt I 29 20 (I 2 14) x1 := ⟨_, rfl⟩
  have h := h I1 eI1
  refine ex_callS (as := [.ref 29, .int (I 2 14), .int x1]) (st := []) dX5_lineUp_9 zmX11_put zl_RX5_91 zsX11_put rfl (Nat.le_of_ble_eq_true rfl) (Nat.le_of_ble_eq_true rfl) (eI1 ▸ (S_put' (by decide) (ly_a29 hL))) ?_
  refine ex_step (pc' := 13) dX5_lineUp_12 rfl ?_
  refine ex_step (pc' := 14) dX5_lineUp_13 rfl ?_
  refine ex_geti dX5_lineUp_14 wf_RX5_198 (ly_a2 hL) rfl ?_
  refine ex_step (pc' := 18) (st' := [.int 1, .int (I1 2 14), .ref 2]) dX5_lineUp_17 rfl ?_
  refine ex_step (pc' := 19) dX5_lineUp_18 rfl ?_
  refine ex_putiN dX5_lineUp_19 (wp_RX5_198 _) (ly_a2 hL) rfl ⟨rfl, rfl⟩ (fun I2 eI2 => ?_)
  have h := h I2 eI2
  rw [h]; exact ex_ret (v := none) ⟨dX5_lineUp_22, rfl⟩
set_option maxHeartbeats 4000000 in
theorem BX5_release_0 {d : Nat} {Z : zZ} {I : zI} {J : zJ} {o : zO} {t u : Nat} (x1 : Int32) (hL : zLY Z t u)  (h : zE (d + 2) kX5_release 7 [some (.ref 2), some (.int x1), some (.int ((I 2 14) - 1))] [] Z I J o) : zE (d + 2) kX5_release 0 [some (.ref 2), some (.int x1), none] [] Z I J o := by
  refine ex_step (pc' := 1) dX5_release_0 rfl ?_
  refine ex_geti dX5_release_1 wf_RX5_198 (ly_a2 hL) rfl ?_
  refine ex_step (pc' := 5) (st' := [.int 1, .int (I 2 14)]) dX5_release_4 rfl ?_
  refine ex_step (pc' := 6) dX5_release_5 rfl ?_
  refine ex_step (pc' := 7) (ls' := [some (.ref 2), some (.int x1), some (.int ((I 2 14) - 1))]) dX5_release_6 rfl ?_
  exact h
set_option maxHeartbeats 4000000 in
theorem BX5_release_7 {d : Nat} {Z : zZ} {I : zI} {J : zJ} {o : zO} {t u : Nat} (x1 : Int32) (x2 : Int32) (hL : zLY Z t u)  (h : ((x2 < 0 → o = (none, Z, I, J)) ∧ (¬ x2 < 0 → (((zbind (zat I 29 20 x2)) < x1 → o = (none, Z, I, J)) ∧ (¬ (zbind (zat I 29 20 x2)) < x1 → (∃ (I1 : zI), zE (d + 1) kX2_add 0 [some (.ref (u + 1)), some (.int (zat I 29 20 x2)), some (.int 0)] [] Z I J (none, Z, I1, J) ∧ (∀ I2 : zI, I2 = zu I1 2 14 ((I1 2 14) - 1) → zE (d + 2) kX5_release 7 [some (.ref 2), some (.int x1), some (.int (x2 + (-1)))] [] Z I2 J o))))))) : zE (d + 2) kX5_release 7 [some (.ref 2), some (.int x1), some (.int x2)] [] Z I J o := by
  refine ex_step (pc' := 8) dX5_release_7 rfl ?_
  refine ex_if (pc' := 61) dX5_release_8 (by decide) (fun c => ?_) (fun c => ?_)
  · have h := h.1 c
    rw [h]; exact ex_ret (v := none) ⟨dX5_release_61, rfl⟩
  · have h := h.2 c
    refine ex_step (pc' := 12) dX5_release_11 rfl ?_
    refine ex_getr dX5_release_12 wf_RX5_35 (ly_a2 hL) rfl (ly_r2_13 hL) ?_
    refine ex_step (pc' := 16) dX5_release_15 rfl ?_
    refine ex_callS (as := [.ref 29, .int x2]) (st := []) dX5_release_16 zmX11_at zl_RX5_126 zsX11_at rfl (Nat.le_of_ble_eq_true rfl) (Nat.le_of_ble_eq_true rfl) (S_at' (by decide) (ly_a29 hL)) ?_
    refine ex_callS (as := [.int (zat I 29 20 x2)]) (st := []) dX5_release_19 zmX5_bindingOf zl_RX5_208 zsX5_bindingOf rfl (Nat.le_of_ble_eq_true rfl) (Nat.le_of_ble_eq_true rfl) S_bindingOf ?_
    refine ex_step (pc' := 23) dX5_release_22 rfl ?_
    refine ex_icmp (pc' := 61) dX5_release_23 (by decide) (fun c => ?_) (fun c => ?_)
    · have h := h.1 c
      rw [h]; exact ex_ret (v := none) ⟨dX5_release_61, rfl⟩
    · have h := h.2 c
      refine ex_step (pc' := 27) dX5_release_26 rfl ?_
      refine ex_getr dX5_release_27 wf_RX5_14 (ly_a2 hL) rfl (ly_rtext hL) ?_
      refine ex_getr dX5_release_30 wf_RX5_180 (zTx_o (ly_ux hL)) rfl (zTx_r6 (ly_ux hL)) ?_
      refine ex_step (pc' := 34) dX5_release_33 rfl ?_
      refine ex_getr dX5_release_34 wf_RX5_35 (ly_a2 hL) rfl (ly_r2_13 hL) ?_
      refine ex_step (pc' := 38) dX5_release_37 rfl ?_
      refine ex_callS (as := [.ref 29, .int x2]) (st := [.ref (u + 1)]) dX5_release_38 zmX11_at zl_RX5_126 zsX11_at rfl (Nat.le_of_ble_eq_true rfl) (Nat.le_of_ble_eq_true rfl) (S_at' (by decide) (ly_a29 hL)) ?_
      refine ex_step (pc' := 42) (st' := [.int 0, .int (zat I 29 20 x2), .ref (u + 1)]) dX5_release_41 rfl ?_
      obtain ⟨I1, hc, h⟩ := h
      refine ex_callV (as := [.int (zat I 29 20 x2), .int 0]) (st := []) (ci := 2) dX5_release_42 zmX2_add zl_RX5_192 ziX2_add zvX2_add (by decide) (zLw_o (zTx_l (ly_ux hL))) rfl (Nat.le_of_ble_eq_true rfl) (Nat.le_of_ble_eq_true rfl) hc ?_
      refine ex_step (pc' := 46) dX5_release_45 rfl ?_
      refine ex_step (pc' := 47) dX5_release_46 rfl ?_
      refine ex_geti dX5_release_47 wf_RX5_198 (ly_a2 hL) rfl ?_
      refine ex_step (pc' := 51) (st' := [.int 1, .int (I1 2 14), .ref 2]) dX5_release_50 rfl ?_
      refine ex_step (pc' := 52) dX5_release_51 rfl ?_
      refine ex_putiN dX5_release_52 (wp_RX5_198 _) (ly_a2 hL) rfl ⟨rfl, rfl⟩ (fun I2 eI2 => ?_)
      have h := h I2 eI2
      refine ex_step (pc' := 58) (ls' := [some (.ref 2), some (.int x1), some (.int (x2 + (-1)))]) dX5_release_55 rfl ?_
      refine ex_step (pc' := 7) dX5_release_58 rfl ?_
      exact h
set_option maxHeartbeats 4000000 in
theorem BX6_clear_0 {d : Nat} {Z : zZ} {I : zI} {J : zJ} {o : zO} {t0 : Nat} (ht0 : zTx Z t0) (h : (∀ I1 : zI, I1 = zu I t0 0 6 → (∀ I2 : zI, I2 = zu I1 t0 1 6 → (∀ I3 : zI, I3 = zu I2 t0 2 0 → (∀ I4 : zI, I4 = zu I3 t0 3 0 → (∀ I5 : zI, I5 = zu I4 t0 4 0 → (∀ I6 : zI, I6 = zu I5 t0 5 (-1) → (∀ I7 : zI, I7 = zu I6 (t0 + 1) 0 0 → o = (none, Z, I7, J))))))))) : zE d kX6_clear 0 [some (.ref t0)] [] Z I J o := by
  refine ex_step (pc' := 1) dX6_clear_0 rfl ?_
  refine ex_step (pc' := 3) (st' := [.int 6, .ref t0]) dX6_clear_1 rfl ?_
  refine ex_putiN dX6_clear_3 (wp_RX6_53 _) (zTx_o ht0) rfl ⟨rfl, rfl⟩ (fun I1 eI1 => ?_)
  have h := h I1 eI1
  refine ex_step (pc' := 7) dX6_clear_6 rfl ?_
  refine ex_step (pc' := 9) (st' := [.int 6, .ref t0]) dX6_clear_7 rfl ?_
  refine ex_putiN dX6_clear_9 (wp_RX6_57 _) (zTx_o ht0) rfl ⟨rfl, rfl⟩ (fun I2 eI2 => ?_)
  have h := h I2 eI2
  refine ex_step (pc' := 13) dX6_clear_12 rfl ?_
  refine ex_step (pc' := 14) (st' := [.int 0, .ref t0]) dX6_clear_13 rfl ?_
  refine ex_putiN dX6_clear_14 (wp_RX6_63 _) (zTx_o ht0) rfl ⟨rfl, rfl⟩ (fun I3 eI3 => ?_)
  have h := h I3 eI3
  refine ex_step (pc' := 18) dX6_clear_17 rfl ?_
  refine ex_step (pc' := 19) (st' := [.int 0, .ref t0]) dX6_clear_18 rfl ?_
  refine ex_putiN dX6_clear_19 (wp_RX6_66 _) (zTx_o ht0) rfl ⟨rfl, rfl⟩ (fun I4 eI4 => ?_)
  have h := h I4 eI4
  refine ex_step (pc' := 23) dX6_clear_22 rfl ?_
  refine ex_step (pc' := 24) (st' := [.int 0, .ref t0]) dX6_clear_23 rfl ?_
  refine ex_putiN dX6_clear_24 (wp_RX6_69 _) (zTx_o ht0) rfl ⟨rfl, rfl⟩ (fun I5 eI5 => ?_)
  have h := h I5 eI5
  refine ex_step (pc' := 28) dX6_clear_27 rfl ?_
  refine ex_step (pc' := 29) (st' := [.int (-1), .ref t0]) dX6_clear_28 rfl ?_
  refine ex_putiN dX6_clear_29 (wp_RX6_60 _) (zTx_o ht0) rfl ⟨rfl, rfl⟩ (fun I6 eI6 => ?_)
  have h := h I6 eI6
  refine ex_step (pc' := 33) dX6_clear_32 rfl ?_
  refine ex_getr dX6_clear_33 wf_RX6_12 (zTx_o ht0) rfl (zTx_r6 ht0) ?_
  refine ex_step (pc' := 37) (st' := [.int 0, .ref (t0 + 1)]) dX6_clear_36 rfl ?_
  refine ex_putiN dX6_clear_37 (wp_RX6_72 _) (zLw_o (zTx_l ht0)) rfl ⟨rfl, rfl⟩ (fun I7 eI7 => ?_)
  have h := h I7 eI7
  rw [h]; exact ex_ret (v := none) ⟨dX6_clear_40, rfl⟩
set_option maxHeartbeats 4000000 in
theorem BX6_addMan_0 {d : Nat} {Z : zZ} {I : zI} {J : zJ} {o : zO} {t0 : Nat} (w1 : Int64) (x3 : Int32) (x4 : Int32) (ht0 : zTx Z t0) (h : (((I t0 2) < 0 → o = (none, Z, I, J)) ∧ (¬ (I t0 2) < 0 → (((Int32.ofNat 7) ≤ (I t0 2) → o = (none, Z, I, J)) ∧ (¬ (Int32.ofNat 7) ≤ (I t0 2) → (vp_in (I t0 2) 7 ∧ (∀ J1 : zJ, J1 = zu J (t0 + 16) (I t0 2).toNatClampNeg w1 → (∀ I2 : zI, I2 = zpt I (t0 + 6) 7 (I t0 2) x3 → (∀ I3 : zI, I3 = zpt I2 (t0 + 7) 7 (I2 t0 2) x4 → (∀ I4 : zI, I4 = zpt I3 (t0 + 8) 7 (I3 t0 2) (-1) → (∀ I5 : zI, I5 = zpt I4 (t0 + 10) 7 (I4 t0 2) 0 → (∀ I6 : zI, I6 = zpt I5 (t0 + 11) 7 (I5 t0 2) 0 → (∀ I7 : zI, I7 = zu I6 t0 2 ((I6 t0 2) + 1) → o = (none, Z, I7, J1)))))))))))))) : zE (d + 1) kX6_addMan 0 [some (.ref t0), some (.long w1), none, some (.int x3), some (.int x4)] [] Z I J o := by
  refine ex_step (pc' := 1) dX6_addMan_0 rfl ?_
  refine ex_geti dX6_addMan_1 wf_RX6_63 (zTx_o ht0) rfl ?_
  refine ex_if (pc' := 100) dX6_addMan_4 (by decide) (fun c => ?_) (fun c => ?_)
  · have h := h.1 c
    rw [h]; exact ex_ret (v := none) ⟨dX6_addMan_100, rfl⟩
  · have h := h.2 c
    refine ex_step (pc' := 8) dX6_addMan_7 rfl ?_
    refine ex_geti dX6_addMan_8 wf_RX6_63 (zTx_o ht0) rfl ?_
    refine ex_step (pc' := 12) dX6_addMan_11 rfl ?_
    refine ex_getr dX6_addMan_12 wf_RX6_49 (zTx_o ht0) rfl (zTx_r17 ht0) ?_
    refine ex_alen dX6_addMan_15 (Or.inl ⟨(zTx_a16 ht0), by decide, by decide⟩) ?_
    refine ex_icmp (pc' := 100) dX6_addMan_16 (by decide) (fun c => ?_) (fun c => ?_)
    · have h := h.1 c
      rw [h]; exact ex_ret (v := none) ⟨dX6_addMan_100, rfl⟩
    · have h := h.2 c
      refine ex_step (pc' := 20) dX6_addMan_19 rfl ?_
      refine ex_getr dX6_addMan_20 wf_RX6_49 (zTx_o ht0) rfl (zTx_r17 ht0) ?_
      refine ex_step (pc' := 24) dX6_addMan_23 rfl ?_
      refine ex_geti dX6_addMan_24 wf_RX6_63 (zTx_o ht0) rfl ?_
      refine ex_step (pc' := 28) dX6_addMan_27 rfl ?_
      obtain ⟨hv, h⟩ := h
      refine ex_lastN dX6_addMan_28 (zTx_a16 ht0) hv (fun J1 eJ1 => ?_)
      have h := h J1 eJ1
      refine ex_step (pc' := 30) dX6_addMan_29 rfl ?_
      refine ex_getr dX6_addMan_30 wf_RX6_18 (zTx_o ht0) rfl (zTx_r7 ht0) ?_
      refine ex_step (pc' := 34) dX6_addMan_33 rfl ?_
      refine ex_geti dX6_addMan_34 wf_RX6_63 (zTx_o ht0) rfl ?_
      refine ex_step (pc' := 38) dX6_addMan_37 rfl ?_
      obtain ⟨I2, eI2⟩ : ∃ q : zI, q = zpt I (t0 + 6) 7 (I t0 2) x3 := ⟨_, rfl⟩
      have h := h I2 eI2
      refine ex_callS (as := [.ref (t0 + 6), .int (I t0 2), .int x3]) (st := []) dX6_addMan_38 zmX11_put zl_RX6_75 zsX11_put rfl (Nat.le_of_ble_eq_true rfl) (Nat.le_of_ble_eq_true rfl) (eI2 ▸ (S_put' (by decide) (zTx_a6 ht0))) ?_
      refine ex_step (pc' := 42) dX6_addMan_41 rfl ?_
      refine ex_getr dX6_addMan_42 wf_RX6_22 (zTx_o ht0) rfl (zTx_r8 ht0) ?_
      refine ex_step (pc' := 46) dX6_addMan_45 rfl ?_
      refine ex_geti dX6_addMan_46 wf_RX6_63 (zTx_o ht0) rfl ?_
      refine ex_step (pc' := 51) dX6_addMan_49 rfl ?_
      obtain ⟨I3, eI3⟩ : ∃ q : zI, q = zpt I2 (t0 + 7) 7 (I2 t0 2) x4 := ⟨_, rfl⟩
      have h := h I3 eI3
      refine ex_callS (as := [.ref (t0 + 7), .int (I2 t0 2), .int x4]) (st := []) dX6_addMan_51 zmX11_put zl_RX6_75 zsX11_put rfl (Nat.le_of_ble_eq_true rfl) (Nat.le_of_ble_eq_true rfl) (eI3 ▸ (S_put' (by decide) (zTx_a7 ht0))) ?_
      refine ex_step (pc' := 55) dX6_addMan_54 rfl ?_
      refine ex_getr dX6_addMan_55 wf_RX6_25 (zTx_o ht0) rfl (zTx_r9 ht0) ?_
      refine ex_step (pc' := 59) dX6_addMan_58 rfl ?_
      refine ex_geti dX6_addMan_59 wf_RX6_63 (zTx_o ht0) rfl ?_
      refine ex_step (pc' := 63) (st' := [.int (-1), .int (I3 t0 2), .ref (t0 + 8)]) dX6_addMan_62 rfl ?_
      obtain ⟨I4, eI4⟩ : ∃ q : zI, q = zpt I3 (t0 + 8) 7 (I3 t0 2) (-1) := ⟨_, rfl⟩
      have h := h I4 eI4
      refine ex_callS (as := [.ref (t0 + 8), .int (I3 t0 2), .int (-1)]) (st := []) dX6_addMan_63 zmX11_put zl_RX6_75 zsX11_put rfl (Nat.le_of_ble_eq_true rfl) (Nat.le_of_ble_eq_true rfl) (eI4 ▸ (S_put' (by decide) (zTx_a8 ht0))) ?_
      refine ex_step (pc' := 67) dX6_addMan_66 rfl ?_
      refine ex_getr dX6_addMan_67 wf_RX6_31 (zTx_o ht0) rfl (zTx_r11 ht0) ?_
      refine ex_step (pc' := 71) dX6_addMan_70 rfl ?_
      refine ex_geti dX6_addMan_71 wf_RX6_63 (zTx_o ht0) rfl ?_
      refine ex_step (pc' := 75) (st' := [.int 0, .int (I4 t0 2), .ref (t0 + 10)]) dX6_addMan_74 rfl ?_
      obtain ⟨I5, eI5⟩ : ∃ q : zI, q = zpt I4 (t0 + 10) 7 (I4 t0 2) 0 := ⟨_, rfl⟩
      have h := h I5 eI5
      refine ex_callS (as := [.ref (t0 + 10), .int (I4 t0 2), .int 0]) (st := []) dX6_addMan_75 zmX11_put zl_RX6_75 zsX11_put rfl (Nat.le_of_ble_eq_true rfl) (Nat.le_of_ble_eq_true rfl) (eI5 ▸ (S_put' (by decide) (zTx_a10 ht0))) ?_
      refine ex_step (pc' := 79) dX6_addMan_78 rfl ?_
      refine ex_getr dX6_addMan_79 wf_RX6_34 (zTx_o ht0) rfl (zTx_r12 ht0) ?_
      refine ex_step (pc' := 83) dX6_addMan_82 rfl ?_
      refine ex_geti dX6_addMan_83 wf_RX6_63 (zTx_o ht0) rfl ?_
      refine ex_step (pc' := 87) (st' := [.int 0, .int (I5 t0 2), .ref (t0 + 11)]) dX6_addMan_86 rfl ?_
      obtain ⟨I6, eI6⟩ : ∃ q : zI, q = zpt I5 (t0 + 11) 7 (I5 t0 2) 0 := ⟨_, rfl⟩
      have h := h I6 eI6
      refine ex_callS (as := [.ref (t0 + 11), .int (I5 t0 2), .int 0]) (st := []) dX6_addMan_87 zmX11_put zl_RX6_75 zsX11_put rfl (Nat.le_of_ble_eq_true rfl) (Nat.le_of_ble_eq_true rfl) (eI6 ▸ (S_put' (by decide) (zTx_a11 ht0))) ?_
      refine ex_step (pc' := 91) dX6_addMan_90 rfl ?_
      refine ex_step (pc' := 92) dX6_addMan_91 rfl ?_
      refine ex_geti dX6_addMan_92 wf_RX6_63 (zTx_o ht0) rfl ?_
      refine ex_step (pc' := 96) (st' := [.int 1, .int (I6 t0 2), .ref t0]) dX6_addMan_95 rfl ?_
      refine ex_step (pc' := 97) dX6_addMan_96 rfl ?_
      refine ex_putiN dX6_addMan_97 (wp_RX6_63 _) (zTx_o ht0) rfl ⟨rfl, rfl⟩ (fun I7 eI7 => ?_)
      have h := h I7 eI7
      rw [h]; exact ex_ret (v := none) ⟨dX6_addMan_100, rfl⟩
set_option maxHeartbeats 4000000 in
theorem BX6_manNamed_0 {d : Nat} {Z : zZ} {I : zI} {J : zJ} {o : zO} {t0 : Nat} (w1 : Int64) (ht0 : zTx Z t0) (h : zE d kX6_manNamed 2 [some (.ref t0), some (.long w1), none, some (.int 0)] [] Z I J o) : zE d kX6_manNamed 0 [some (.ref t0), some (.long w1), none, none] [] Z I J o := by
  refine ex_step (pc' := 1) (st' := [.int 0]) dX6_manNamed_0 rfl ?_
  refine ex_step (pc' := 2) (ls' := [some (.ref t0), some (.long w1), none, some (.int 0)]) dX6_manNamed_1 rfl ?_
  exact h
set_option maxHeartbeats 4000000 in
theorem BX6_manNamed_2 {d : Nat} {Z : zZ} {I : zI} {J : zJ} {o : zO} {t0 : Nat} (w1 : Int64) (x3 : Int32) (ht0 : zTx Z t0) (h : (((I t0 2) ≤ x3 → o = (some (.int (-1)), Z, I, J)) ∧ (¬ (I t0 2) ≤ x3 → (((Int32.ofNat 7) ≤ x3 → o = (some (.int (-1)), Z, I, J)) ∧ (¬ (Int32.ofNat 7) ≤ x3 → (vp_in x3 7 ∧ ((¬ (lg_cmp (J (t0 + 16) x3.toNatClampNeg) w1) = 0 → zE d kX6_manNamed 2 [some (.ref t0), some (.long w1), none, some (.int (x3 + 1))] [] Z I J o) ∧ ((lg_cmp (J (t0 + 16) x3.toNatClampNeg) w1) = 0 → o = (some (.int x3), Z, I, J))))))))) : zE d kX6_manNamed 2 [some (.ref t0), some (.long w1), none, some (.int x3)] [] Z I J o := by
  refine ex_step (pc' := 3) dX6_manNamed_2 rfl ?_
  refine ex_step (pc' := 4) dX6_manNamed_3 rfl ?_
  refine ex_geti dX6_manNamed_4 wf_RX6_63 (zTx_o ht0) rfl ?_
  refine ex_icmp (pc' := 38) dX6_manNamed_7 (by decide) (fun c => ?_) (fun c => ?_)
  · have h := h.1 c
    refine ex_step (pc' := 39) (st' := [.int (-1)]) dX6_manNamed_38 rfl ?_
    rw [h]; exact ex_ret (v := some (.int (-1))) ⟨dX6_manNamed_39, _, rfl, rfl⟩
  · have h := h.2 c
    refine ex_step (pc' := 11) dX6_manNamed_10 rfl ?_
    refine ex_step (pc' := 12) dX6_manNamed_11 rfl ?_
    refine ex_getr dX6_manNamed_12 wf_RX6_49 (zTx_o ht0) rfl (zTx_r17 ht0) ?_
    refine ex_alen dX6_manNamed_15 (Or.inl ⟨(zTx_a16 ht0), by decide, by decide⟩) ?_
    refine ex_icmp (pc' := 38) dX6_manNamed_16 (by decide) (fun c => ?_) (fun c => ?_)
    · have h := h.1 c
      refine ex_step (pc' := 39) (st' := [.int (-1)]) dX6_manNamed_38 rfl ?_
      rw [h]; exact ex_ret (v := some (.int (-1))) ⟨dX6_manNamed_39, _, rfl, rfl⟩
    · have h := h.2 c
      refine ex_step (pc' := 20) dX6_manNamed_19 rfl ?_
      refine ex_getr dX6_manNamed_20 wf_RX6_49 (zTx_o ht0) rfl (zTx_r17 ht0) ?_
      refine ex_step (pc' := 24) dX6_manNamed_23 rfl ?_
      obtain ⟨hv, h⟩ := h
      refine ex_lald dX6_manNamed_24 (zTx_a16 ht0) hv ?_
      refine ex_step (pc' := 26) dX6_manNamed_25 rfl ?_
      refine ex_step (pc' := 27) dX6_manNamed_26 rfl ?_
      refine ex_if (pc' := 32) dX6_manNamed_27 (by decide) (fun c => ?_) (fun c => ?_)
      · have h := h.1 c
        refine ex_step (pc' := 35) (ls' := [some (.ref t0), some (.long w1), none, some (.int (x3 + 1))]) dX6_manNamed_32 rfl ?_
        refine ex_step (pc' := 2) dX6_manNamed_35 rfl ?_
        exact h
      · have h := h.2 (Classical.not_not.mp c)
        refine ex_step (pc' := 31) dX6_manNamed_30 rfl ?_
        rw [h]; exact ex_ret (v := some (.int x3)) ⟨dX6_manNamed_31, _, rfl, rfl⟩
set_option maxHeartbeats 4000000 in
theorem BX6_addErrand_0 {d : Nat} {Z : zZ} {I : zI} {J : zJ} {o : zO} {t0 : Nat} (x1 : Int32) (x2 : Int32) (x3 : Int32) (ht0 : zTx Z t0) (h : (∀ y1 : Int32, y1 = ((x1 * 6) + (zat I (t0 + 11) 7 x1)) → (∀ I2 : zI, I2 = zpt I (t0 + 12) 42 y1 x2 → (∀ I3 : zI, I3 = zpt I2 (t0 + 13) 42 y1 x3 → (∀ I4 : zI, I4 = zpt I3 (t0 + 11) 7 x1 ((zat I3 (t0 + 11) 7 x1) + 1) → o = (none, Z, I4, J)))))) : zE (d + 1) kX6_addErrand 0 [some (.ref t0), some (.int x1), some (.int x2), some (.int x3), none] [] Z I J o := by
  refine ex_step (pc' := 1) dX6_addErrand_0 rfl ?_
  refine ex_step (pc' := 3) (st' := [.int 6, .int x1]) dX6_addErrand_1 rfl ?_
  refine ex_step (pc' := 4) dX6_addErrand_3 rfl ?_
  refine ex_step (pc' := 5) dX6_addErrand_4 rfl ?_
  refine ex_getr dX6_addErrand_5 wf_RX6_34 (zTx_o ht0) rfl (zTx_r12 ht0) ?_
  refine ex_step (pc' := 9) dX6_addErrand_8 rfl ?_
  refine ex_callS (as := [.ref (t0 + 11), .int x1]) (st := [.int (x1 * 6)]) dX6_addErrand_9 zmX11_at zl_RX6_79 zsX11_at rfl (Nat.le_of_ble_eq_true rfl) (Nat.le_of_ble_eq_true rfl) (S_at' (by decide) (zTx_a11 ht0)) ?_
  refine ex_step (pc' := 13) dX6_addErrand_12 rfl ?_
  refine ex_topi (fun y1 ey1 => ?_)
  have h := h y1 ey1
  refine ex_step (pc' := 15) (ls' := [some (.ref t0), some (.int x1), some (.int x2), some (.int x3), some (.int y1)]) dX6_addErrand_13 rfl ?_
  refine ex_step (pc' := 16) dX6_addErrand_15 rfl ?_
  refine ex_getr dX6_addErrand_16 wf_RX6_37 (zTx_o ht0) rfl (zTx_r13 ht0) ?_
  refine ex_step (pc' := 21) dX6_addErrand_19 rfl ?_
  refine ex_step (pc' := 22) dX6_addErrand_21 rfl ?_
  obtain ⟨I2, eI2⟩ : ∃ q : zI, q = zpt I (t0 + 12) 42 y1 x2 := ⟨_, rfl⟩
  have h := h I2 eI2
  refine ex_callS (as := [.ref (t0 + 12), .int y1, .int x2]) (st := []) dX6_addErrand_22 zmX11_put zl_RX6_75 zsX11_put rfl (Nat.le_of_ble_eq_true rfl) (Nat.le_of_ble_eq_true rfl) (eI2 ▸ (S_put' (by decide) (zTx_a12 ht0))) ?_
  refine ex_step (pc' := 26) dX6_addErrand_25 rfl ?_
  refine ex_getr dX6_addErrand_26 wf_RX6_40 (zTx_o ht0) rfl (zTx_r14 ht0) ?_
  refine ex_step (pc' := 31) dX6_addErrand_29 rfl ?_
  refine ex_step (pc' := 32) dX6_addErrand_31 rfl ?_
  obtain ⟨I3, eI3⟩ : ∃ q : zI, q = zpt I2 (t0 + 13) 42 y1 x3 := ⟨_, rfl⟩
  have h := h I3 eI3
  refine ex_callS (as := [.ref (t0 + 13), .int y1, .int x3]) (st := []) dX6_addErrand_32 zmX11_put zl_RX6_75 zsX11_put rfl (Nat.le_of_ble_eq_true rfl) (Nat.le_of_ble_eq_true rfl) (eI3 ▸ (S_put' (by decide) (zTx_a13 ht0))) ?_
  refine ex_step (pc' := 36) dX6_addErrand_35 rfl ?_
  refine ex_getr dX6_addErrand_36 wf_RX6_34 (zTx_o ht0) rfl (zTx_r12 ht0) ?_
  refine ex_step (pc' := 40) dX6_addErrand_39 rfl ?_
  refine ex_step (pc' := 41) dX6_addErrand_40 rfl ?_
  refine ex_getr dX6_addErrand_41 wf_RX6_34 (zTx_o ht0) rfl (zTx_r12 ht0) ?_
  refine ex_step (pc' := 45) dX6_addErrand_44 rfl ?_
  refine ex_callS (as := [.ref (t0 + 11), .int x1]) (st := [.int x1, .ref (t0 + 11)]) dX6_addErrand_45 zmX11_at zl_RX6_79 zsX11_at rfl (Nat.le_of_ble_eq_true rfl) (Nat.le_of_ble_eq_true rfl) (S_at' (by decide) (zTx_a11 ht0)) ?_
  refine ex_step (pc' := 49) (st' := [.int 1, .int (zat I3 (t0 + 11) 7 x1), .int x1, .ref (t0 + 11)]) dX6_addErrand_48 rfl ?_
  refine ex_step (pc' := 50) dX6_addErrand_49 rfl ?_
  obtain ⟨I4, eI4⟩ : ∃ q : zI, q = zpt I3 (t0 + 11) 7 x1 ((zat I3 (t0 + 11) 7 x1) + 1) := ⟨_, rfl⟩
  have h := h I4 eI4
  refine ex_callS (as := [.ref (t0 + 11), .int x1, .int ((zat I3 (t0 + 11) 7 x1) + 1)]) (st := []) dX6_addErrand_50 zmX11_put zl_RX6_75 zsX11_put rfl (Nat.le_of_ble_eq_true rfl) (Nat.le_of_ble_eq_true rfl) (eI4 ▸ (S_put' (by decide) (zTx_a11 ht0))) ?_
  rw [h]; exact ex_ret (v := none) ⟨dX6_addErrand_53, rfl⟩
set_option maxHeartbeats 4000000 in
theorem BX6_addPillar_0 {d : Nat} {Z : zZ} {I : zI} {J : zJ} {o : zO} {t0 : Nat} (x1 : Int32) (x2 : Int32) (ht0 : zTx Z t0) (h : (∀ I1 : zI, I1 = zpt I (t0 + 14) 6 (I t0 3) x1 → (∀ I2 : zI, I2 = zpt I1 (t0 + 15) 6 (I1 t0 3) x2 → (∀ I3 : zI, I3 = zu I2 t0 3 ((I2 t0 3) + 1) → o = (none, Z, I3, J))))) : zE (d + 1) kX6_addPillar 0 [some (.ref t0), some (.int x1), some (.int x2)] [] Z I J o := by
  refine ex_step (pc' := 1) dX6_addPillar_0 rfl ?_
  refine ex_getr dX6_addPillar_1 wf_RX6_43 (zTx_o ht0) rfl (zTx_r15 ht0) ?_
  refine ex_step (pc' := 5) dX6_addPillar_4 rfl ?_
  refine ex_geti dX6_addPillar_5 wf_RX6_66 (zTx_o ht0) rfl ?_
  refine ex_step (pc' := 9) dX6_addPillar_8 rfl ?_
  obtain ⟨I1, eI1⟩ : ∃ q : zI, q = zpt I (t0 + 14) 6 (I t0 3) x1 := ⟨_, rfl⟩
  have h := h I1 eI1
  refine ex_callS (as := [.ref (t0 + 14), .int (I t0 3), .int x1]) (st := []) dX6_addPillar_9 zmX11_put zl_RX6_75 zsX11_put rfl (Nat.le_of_ble_eq_true rfl) (Nat.le_of_ble_eq_true rfl) (eI1 ▸ (S_put' (by decide) (zTx_a14 ht0))) ?_
  refine ex_step (pc' := 13) dX6_addPillar_12 rfl ?_
  refine ex_getr dX6_addPillar_13 wf_RX6_46 (zTx_o ht0) rfl (zTx_r16 ht0) ?_
  refine ex_step (pc' := 17) dX6_addPillar_16 rfl ?_
  refine ex_geti dX6_addPillar_17 wf_RX6_66 (zTx_o ht0) rfl ?_
  refine ex_step (pc' := 21) dX6_addPillar_20 rfl ?_
  obtain ⟨I2, eI2⟩ : ∃ q : zI, q = zpt I1 (t0 + 15) 6 (I1 t0 3) x2 := ⟨_, rfl⟩
  have h := h I2 eI2
  refine ex_callS (as := [.ref (t0 + 15), .int (I1 t0 3), .int x2]) (st := []) dX6_addPillar_21 zmX11_put zl_RX6_75 zsX11_put rfl (Nat.le_of_ble_eq_true rfl) (Nat.le_of_ble_eq_true rfl) (eI2 ▸ (S_put' (by decide) (zTx_a15 ht0))) ?_
  refine ex_step (pc' := 25) dX6_addPillar_24 rfl ?_
  refine ex_step (pc' := 26) dX6_addPillar_25 rfl ?_
  refine ex_geti dX6_addPillar_26 wf_RX6_66 (zTx_o ht0) rfl ?_
  refine ex_step (pc' := 30) (st' := [.int 1, .int (I2 t0 3), .ref t0]) dX6_addPillar_29 rfl ?_
  refine ex_step (pc' := 31) dX6_addPillar_30 rfl ?_
  refine ex_putiN dX6_addPillar_31 (wp_RX6_66 _) (zTx_o ht0) rfl ⟨rfl, rfl⟩ (fun I3 eI3 => ?_)
  have h := h I3 eI3
  rw [h]; exact ex_ret (v := none) ⟨dX6_addPillar_34, rfl⟩
set_option maxHeartbeats 4000000 in
theorem BX6_measure_0 {d : Nat} {Z : zZ} {I : zI} {J : zJ} {o : zO} {t0 : Nat} (ht0 : zTx Z t0) (h : zE (d + 2) kX6_measure 2 [some (.ref t0), some (.int 0), none] [] Z I J o) : zE (d + 2) kX6_measure 0 [some (.ref t0), none, none] [] Z I J o := by
  refine ex_step (pc' := 1) (st' := [.int 0]) dX6_measure_0 rfl ?_
  refine ex_step (pc' := 2) (ls' := [some (.ref t0), some (.int 0), none]) dX6_measure_1 rfl ?_
  exact h
set_option maxHeartbeats 4000000 in
theorem BX6_measure_2 {d : Nat} {Z : zZ} {I : zI} {J : zJ} {o : zO} {t0 : Nat} (x1 : Int32) (ht0 : zTx Z t0) (h : (((I t0 2) ≤ x1 → o = (none, Z, I, J)) ∧ (¬ (I t0 2) ≤ x1 → ((¬ (I t0 5) = (-1) → (∃ (v1 : Int32) (I2 : zI), zE (d + 1) kX2_value 0 [some (.ref (t0 + 1)), some (.int (I t0 5)), some (.int (zat I (t0 + 6) 7 x1)), some (.int (zat I (t0 + 7) 7 x1)), some (.int 0), some (.int 0), some (.int 0), some (.int x1), none, none, none, none, none, none, none] [] Z I J (some (.int v1), Z, I2, J) ∧ (∀ I3 : zI, I3 = zpt I2 (t0 + 9) 7 x1 (if 0 < (if v1 < 60 then v1 else 60) then (if v1 < 60 then v1 else 60) else 0) → zE (d + 2) kX6_measure 2 [some (.ref t0), some (.int (x1 + 1)), none] [] Z I3 J o))) ∧ ((I t0 5) = (-1) → (∀ I4 : zI, I4 = zpt I (t0 + 9) 7 x1 (if 0 < (if 30 < 60 then 30 else 60) then (if 30 < 60 then 30 else 60) else 0) → zE (d + 2) kX6_measure 2 [some (.ref t0), some (.int (x1 + 1)), none] [] Z I4 J o)))))) : zE (d + 2) kX6_measure 2 [some (.ref t0), some (.int x1), none] [] Z I J o := by
  refine ex_step (pc' := 3) dX6_measure_2 rfl ?_
  refine ex_step (pc' := 4) dX6_measure_3 rfl ?_
  refine ex_geti dX6_measure_4 wf_RX6_63 (zTx_o ht0) rfl ?_
  refine ex_icmp (pc' := 79) dX6_measure_7 (by decide) (fun c => ?_) (fun c => ?_)
  · have h := h.1 c
    rw [h]; exact ex_ret (v := none) ⟨dX6_measure_79, rfl⟩
  · have h := h.2 c
    refine ex_step (pc' := 11) dX6_measure_10 rfl ?_
    refine ex_geti dX6_measure_11 wf_RX6_60 (zTx_o ht0) rfl ?_
    refine ex_step (pc' := 15) (st' := [.int (-1), .int (I t0 5)]) dX6_measure_14 rfl ?_
    refine ex_icmp (pc' := 23) dX6_measure_15 (by decide) (fun c => ?_) (fun c => ?_)
    · have h := h.1 c
      refine ex_step (pc' := 24) dX6_measure_23 rfl ?_
      refine ex_getr dX6_measure_24 wf_RX6_12 (zTx_o ht0) rfl (zTx_r6 ht0) ?_
      refine ex_step (pc' := 28) dX6_measure_27 rfl ?_
      refine ex_geti dX6_measure_28 wf_RX6_60 (zTx_o ht0) rfl ?_
      refine ex_step (pc' := 32) dX6_measure_31 rfl ?_
      refine ex_getr dX6_measure_32 wf_RX6_18 (zTx_o ht0) rfl (zTx_r7 ht0) ?_
      refine ex_step (pc' := 36) dX6_measure_35 rfl ?_
      refine ex_callS (as := [.ref (t0 + 6), .int x1]) (st := [.int (I t0 5), .ref (t0 + 1)]) dX6_measure_36 zmX11_at zl_RX6_79 zsX11_at rfl (Nat.le_of_ble_eq_true rfl) (Nat.le_of_ble_eq_true rfl) (S_at' (by decide) (zTx_a6 ht0)) ?_
      refine ex_step (pc' := 40) dX6_measure_39 rfl ?_
      refine ex_getr dX6_measure_40 wf_RX6_22 (zTx_o ht0) rfl (zTx_r8 ht0) ?_
      refine ex_step (pc' := 44) dX6_measure_43 rfl ?_
      refine ex_callS (as := [.ref (t0 + 7), .int x1]) (st := [.int (zat I (t0 + 6) 7 x1), .int (I t0 5), .ref (t0 + 1)]) dX6_measure_44 zmX11_at zl_RX6_79 zsX11_at rfl (Nat.le_of_ble_eq_true rfl) (Nat.le_of_ble_eq_true rfl) (S_at' (by decide) (zTx_a7 ht0)) ?_
      refine ex_step (pc' := 48) (st' := [.int 0, .int (zat I (t0 + 7) 7 x1), .int (zat I (t0 + 6) 7 x1), .int (I t0 5), .ref (t0 + 1)]) dX6_measure_47 rfl ?_
      refine ex_step (pc' := 49) (st' := [.int 0, .int 0, .int (zat I (t0 + 7) 7 x1), .int (zat I (t0 + 6) 7 x1), .int (I t0 5), .ref (t0 + 1)]) dX6_measure_48 rfl ?_
      refine ex_step (pc' := 50) (st' := [.int 0, .int 0, .int 0, .int (zat I (t0 + 7) 7 x1), .int (zat I (t0 + 6) 7 x1), .int (I t0 5), .ref (t0 + 1)]) dX6_measure_49 rfl ?_
      refine ex_step (pc' := 51) dX6_measure_50 rfl ?_
      obtain ⟨v1, I2, hc, h⟩ := h
      refine ex_callV (as := [.int (I t0 5), .int (zat I (t0 + 6) 7 x1), .int (zat I (t0 + 7) 7 x1), .int 0, .int 0, .int 0, .int x1]) (st := []) (ci := 2) dX6_measure_51 zmX2_value zl_RX6_83 ziX2_value zvX2_value (by decide) (zLw_o (zTx_l ht0)) rfl (Nat.le_of_ble_eq_true rfl) (Nat.le_of_ble_eq_true rfl) hc ?_
      refine ex_step (pc' := 55) (ls' := [some (.ref t0), some (.int x1), some (.int v1)]) dX6_measure_54 rfl ?_
      refine ex_step (pc' := 56) dX6_measure_55 rfl ?_
      refine ex_getr dX6_measure_56 wf_RX6_28 (zTx_o ht0) rfl (zTx_r10 ht0) ?_
      refine ex_step (pc' := 60) dX6_measure_59 rfl ?_
      refine ex_step (pc' := 61) (st' := [.int 0, .int x1, .ref (t0 + 9)]) dX6_measure_60 rfl ?_
      refine ex_step (pc' := 63) (st' := [.int 60, .int 0, .int x1, .ref (t0 + 9)]) dX6_measure_61 rfl ?_
      refine ex_step (pc' := 64) dX6_measure_63 rfl ?_
      refine ex_min (by omega) dX6_measure_64 zl_RX6_87 (Nat.le_of_ble_eq_true rfl) ?_
      refine ex_max (by omega) dX6_measure_67 zl_RX6_93 (Nat.le_of_ble_eq_true rfl) ?_
      obtain ⟨I3, eI3⟩ : ∃ q : zI, q = zpt I2 (t0 + 9) 7 x1 (if 0 < (if v1 < 60 then v1 else 60) then (if v1 < 60 then v1 else 60) else 0) := ⟨_, rfl⟩
      have h := h I3 eI3
      refine ex_callS (as := [.ref (t0 + 9), .int x1, .int (if 0 < (if v1 < 60 then v1 else 60) then (if v1 < 60 then v1 else 60) else 0)]) (st := []) dX6_measure_70 zmX11_put zl_RX6_75 zsX11_put rfl (Nat.le_of_ble_eq_true rfl) (Nat.le_of_ble_eq_true rfl) (eI3 ▸ (S_put' (by decide) (zTx_a9 ht0))) ?_
      refine ex_step (pc' := 76) (ls' := [some (.ref t0), some (.int (x1 + 1)), some (.int v1)]) dX6_measure_73 rfl ?_
      refine ex_step (pc' := 2) dX6_measure_76 rfl ?_
      exact ex_less (ls' := [some (.ref t0), some (.int (x1 + 1)), none]) ⟨rfl, ⟨rfl, trivial⟩⟩ h
    · have h := h.2 (Classical.not_not.mp c)
      refine ex_step (pc' := 20) (st' := [.int 30]) dX6_measure_18 rfl ?_
      refine ex_step (pc' := 54) dX6_measure_20 rfl ?_
      refine ex_step (pc' := 55) (ls' := [some (.ref t0), some (.int x1), some (.int 30)]) dX6_measure_54 rfl ?_
      refine ex_step (pc' := 56) dX6_measure_55 rfl ?_
      refine ex_getr dX6_measure_56 wf_RX6_28 (zTx_o ht0) rfl (zTx_r10 ht0) ?_
      refine ex_step (pc' := 60) dX6_measure_59 rfl ?_
      refine ex_step (pc' := 61) (st' := [.int 0, .int x1, .ref (t0 + 9)]) dX6_measure_60 rfl ?_
      refine ex_step (pc' := 63) (st' := [.int 60, .int 0, .int x1, .ref (t0 + 9)]) dX6_measure_61 rfl ?_
      refine ex_step (pc' := 64) dX6_measure_63 rfl ?_
      refine ex_min (by omega) dX6_measure_64 zl_RX6_87 (Nat.le_of_ble_eq_true rfl) ?_
      refine ex_max (by omega) dX6_measure_67 zl_RX6_93 (Nat.le_of_ble_eq_true rfl) ?_
      obtain ⟨I4, eI4⟩ : ∃ q : zI, q = zpt I (t0 + 9) 7 x1 (if 0 < (if 30 < 60 then 30 else 60) then (if 30 < 60 then 30 else 60) else 0) := ⟨_, rfl⟩
      have h := h I4 eI4
      refine ex_callS (as := [.ref (t0 + 9), .int x1, .int (if 0 < (if 30 < 60 then 30 else 60) then (if 30 < 60 then 30 else 60) else 0)]) (st := []) dX6_measure_70 zmX11_put zl_RX6_75 zsX11_put rfl (Nat.le_of_ble_eq_true rfl) (Nat.le_of_ble_eq_true rfl) (eI4 ▸ (S_put' (by decide) (zTx_a9 ht0))) ?_
      refine ex_step (pc' := 76) (ls' := [some (.ref t0), some (.int (x1 + 1)), some (.int 30)]) dX6_measure_73 rfl ?_
      refine ex_step (pc' := 2) dX6_measure_76 rfl ?_
      exact ex_less (ls' := [some (.ref t0), some (.int (x1 + 1)), none]) ⟨rfl, ⟨rfl, trivial⟩⟩ h
set_option maxHeartbeats 4000000 in
theorem BX6_goesAt_0 {d : Nat} {Z : zZ} {I : zI} {J : zJ} {o : zO} {t0 : Nat} (x1 : Int32) (x2 : Int32) (x3 : Int32) (x4 : Int32) (x5 : Int32) (ht0 : zTx Z t0) (h : ((¬ (zat I (t0 + 8) 7 x1) = (-1) → (∃ (v1 : Int32), zE (d + 1) kX11_lot 0 [some (.int 100), some (.int (I t0 4)), some (.int (((8 : Int32) * x4) + x1)), none] [] Z I J (some (.int v1), Z, I, J) ∧ (∃ (v2 : Int32) (I3 : zI), zE (d + 1) kX2_value 0 [some (.ref (t0 + 1)), some (.int (zat I (t0 + 8) 7 x1)), some (.int x2), some (.int x3), some (.int x4), some (.int x5), some (.int v1), some (.int x1), none, none, none, none, none, none, none] [] Z I J (some (.int v2), Z, I3, J) ∧ o = (some (.int (if 0 < (v2 - v2 / 6 * 6) then (v2 - v2 / 6 * 6) else 0)), Z, I3, J)))) ∧ ((zat I (t0 + 8) 7 x1) = (-1) → o = (some (.int 0), Z, I, J)))) : zE (d + 2) kX6_goesAt 0 [some (.ref t0), some (.int x1), some (.int x2), some (.int x3), some (.int x4), some (.int x5), none, none] [] Z I J o := by
  refine ex_step (pc' := 1) dX6_goesAt_0 rfl ?_
  refine ex_getr dX6_goesAt_1 wf_RX6_25 (zTx_o ht0) rfl (zTx_r9 ht0) ?_
  refine ex_step (pc' := 5) dX6_goesAt_4 rfl ?_
  refine ex_callS (as := [.ref (t0 + 8), .int x1]) (st := []) dX6_goesAt_5 zmX11_at zl_RX6_79 zsX11_at rfl (Nat.le_of_ble_eq_true rfl) (Nat.le_of_ble_eq_true rfl) (S_at' (by decide) (zTx_a8 ht0)) ?_
  refine ex_step (pc' := 10) (ls' := [some (.ref t0), some (.int x1), some (.int x2), some (.int x3), some (.int x4), some (.int x5), some (.int (zat I (t0 + 8) 7 x1)), none]) dX6_goesAt_8 rfl ?_
  refine ex_step (pc' := 12) dX6_goesAt_10 rfl ?_
  refine ex_step (pc' := 13) (st' := [.int (-1), .int (zat I (t0 + 8) 7 x1)]) dX6_goesAt_12 rfl ?_
  refine ex_icmp (pc' := 18) dX6_goesAt_13 (by decide) (fun c => ?_) (fun c => ?_)
  · have h := h.1 c
    refine ex_step (pc' := 20) (st' := [.int 100]) dX6_goesAt_18 rfl ?_
    refine ex_step (pc' := 21) dX6_goesAt_20 rfl ?_
    refine ex_geti dX6_goesAt_21 wf_RX6_69 (zTx_o ht0) rfl ?_
    refine ex_step (pc' := 26) (st' := [.int 8, .int (I t0 4), .int 100]) dX6_goesAt_24 rfl ?_
    refine ex_step (pc' := 28) dX6_goesAt_26 rfl ?_
    refine ex_step (pc' := 29) dX6_goesAt_28 rfl ?_
    refine ex_step (pc' := 30) dX6_goesAt_29 rfl ?_
    refine ex_step (pc' := 31) dX6_goesAt_30 rfl ?_
    obtain ⟨v1, hc, h⟩ := h
    refine ex_callS (as := [.int 100, .int (I t0 4), .int (((8 : Int32) * x4) + x1)]) (st := []) dX6_goesAt_31 zmX11_lot zl_RX6_96 zsX11_lot rfl (Nat.le_of_ble_eq_true rfl) (Nat.le_of_ble_eq_true rfl) hc ?_
    refine ex_step (pc' := 36) (ls' := [some (.ref t0), some (.int x1), some (.int x2), some (.int x3), some (.int x4), some (.int x5), some (.int (zat I (t0 + 8) 7 x1)), some (.int v1)]) dX6_goesAt_34 rfl ?_
    refine ex_step (pc' := 37) (st' := [.int 0]) dX6_goesAt_36 rfl ?_
    refine ex_step (pc' := 38) dX6_goesAt_37 rfl ?_
    refine ex_getr dX6_goesAt_38 wf_RX6_12 (zTx_o ht0) rfl (zTx_r6 ht0) ?_
    refine ex_step (pc' := 43) dX6_goesAt_41 rfl ?_
    refine ex_step (pc' := 44) dX6_goesAt_43 rfl ?_
    refine ex_step (pc' := 45) dX6_goesAt_44 rfl ?_
    refine ex_step (pc' := 47) dX6_goesAt_45 rfl ?_
    refine ex_step (pc' := 49) dX6_goesAt_47 rfl ?_
    refine ex_step (pc' := 51) dX6_goesAt_49 rfl ?_
    refine ex_step (pc' := 52) dX6_goesAt_51 rfl ?_
    obtain ⟨v2, I3, hc, h⟩ := h
    refine ex_callV (as := [.int (zat I (t0 + 8) 7 x1), .int x2, .int x3, .int x4, .int x5, .int v1, .int x1]) (st := [.int 0]) (ci := 2) dX6_goesAt_52 zmX2_value zl_RX6_83 ziX2_value zvX2_value (by decide) (zLw_o (zTx_l ht0)) rfl (Nat.le_of_ble_eq_true rfl) (Nat.le_of_ble_eq_true rfl) hc ?_
    refine ex_step (pc' := 57) (st' := [.int 6, .int v2, .int 0]) dX6_goesAt_55 rfl ?_
    refine ex_rem dX6_goesAt_57 (by decide) ?_
    refine ex_max (by omega) dX6_goesAt_58 zl_RX6_93 (Nat.le_of_ble_eq_true rfl) ?_
    rw [h]; exact ex_ret (v := some (.int (if 0 < (v2 - v2 / 6 * 6) then (v2 - v2 / 6 * 6) else 0))) ⟨dX6_goesAt_61, _, rfl, rfl⟩
  · have h := h.2 (Classical.not_not.mp c)
    refine ex_step (pc' := 17) (st' := [.int 0]) dX6_goesAt_16 rfl ?_
    rw [h]; exact ex_ret (v := some (.int 0)) ⟨dX6_goesAt_17, _, rfl, rfl⟩
set_option maxHeartbeats 4000000 in
theorem BX6_hasCorner_0 {d : Nat} {Z : zZ} {I : zI} {J : zJ} {o : zO} {t0 : Nat} (x1 : Int32) (x2 : Int32) (ht0 : zTx Z t0) (h : ((x1 < 0 → o = (some (.int 0), Z, I, J)) ∧ (¬ x1 < 0 → (((I t0 0) ≤ x1 → o = (some (.int 0), Z, I, J)) ∧ (¬ (I t0 0) ≤ x1 → ((x2 < 0 → o = (some (.int 0), Z, I, J)) ∧ (¬ x2 < 0 → (((I t0 1) ≤ x2 → o = (some (.int 0), Z, I, J)) ∧ (¬ (I t0 1) ≤ x2 → o = (some (.int 1), Z, I, J)))))))))) : zE d kX6_hasCorner 0 [some (.ref t0), some (.int x1), some (.int x2)] [] Z I J o := by
  refine ex_step (pc' := 1) dX6_hasCorner_0 rfl ?_
  refine ex_if (pc' := 28) dX6_hasCorner_1 (by decide) (fun c => ?_) (fun c => ?_)
  · have h := h.1 c
    refine ex_step (pc' := 29) (st' := [.int 0]) dX6_hasCorner_28 rfl ?_
    rw [h]; exact ex_ret (v := some (.int 0)) ⟨dX6_hasCorner_29, _, rfl, rfl⟩
  · have h := h.2 c
    refine ex_step (pc' := 5) dX6_hasCorner_4 rfl ?_
    refine ex_step (pc' := 6) dX6_hasCorner_5 rfl ?_
    refine ex_geti dX6_hasCorner_6 wf_RX6_53 (zTx_o ht0) rfl ?_
    refine ex_icmp (pc' := 28) dX6_hasCorner_9 (by decide) (fun c => ?_) (fun c => ?_)
    · have h := h.1 c
      refine ex_step (pc' := 29) (st' := [.int 0]) dX6_hasCorner_28 rfl ?_
      rw [h]; exact ex_ret (v := some (.int 0)) ⟨dX6_hasCorner_29, _, rfl, rfl⟩
    · have h := h.2 c
      refine ex_step (pc' := 13) dX6_hasCorner_12 rfl ?_
      refine ex_if (pc' := 28) dX6_hasCorner_13 (by decide) (fun c => ?_) (fun c => ?_)
      · have h := h.1 c
        refine ex_step (pc' := 29) (st' := [.int 0]) dX6_hasCorner_28 rfl ?_
        rw [h]; exact ex_ret (v := some (.int 0)) ⟨dX6_hasCorner_29, _, rfl, rfl⟩
      · have h := h.2 c
        refine ex_step (pc' := 17) dX6_hasCorner_16 rfl ?_
        refine ex_step (pc' := 18) dX6_hasCorner_17 rfl ?_
        refine ex_geti dX6_hasCorner_18 wf_RX6_57 (zTx_o ht0) rfl ?_
        refine ex_icmp (pc' := 28) dX6_hasCorner_21 (by decide) (fun c => ?_) (fun c => ?_)
        · have h := h.1 c
          refine ex_step (pc' := 29) (st' := [.int 0]) dX6_hasCorner_28 rfl ?_
          rw [h]; exact ex_ret (v := some (.int 0)) ⟨dX6_hasCorner_29, _, rfl, rfl⟩
        · have h := h.2 c
          refine ex_step (pc' := 25) (st' := [.int 1]) dX6_hasCorner_24 rfl ?_
          refine ex_step (pc' := 29) dX6_hasCorner_25 rfl ?_
          rw [h]; exact ex_ret (v := some (.int 1)) ⟨dX6_hasCorner_29, _, rfl, rfl⟩
set_option maxHeartbeats 4000000 in
theorem BX6_hasStreet_0 {d : Nat} {Z : zZ} {I : zI} {J : zJ} {o : zO} {t u : Nat} {t0 : Nat} (x1 : Int32) (x2 : Int32) (x3 : Int32) (hL : zLY Z t u) (ht0 : zTx Z t0) (h : ((x3 < 1 → o = (some (.int 0), Z, I, J)) ∧ (¬ x3 < 1 → ((4 < x3 → o = (some (.int 0), Z, I, J)) ∧ (¬ 4 < x3 → (∃ (v1 : Int32), zE d kX6_hasCorner 0 [some (.ref t0), some (.int x1), some (.int x2)] [] Z I J (some (.int v1), Z, I, J) ∧ ((v1 = 0 → o = (some (.int 0), Z, I, J)) ∧ (¬ v1 = 0 → (∃ (v2 : Int32), zE d kX11_at 0 [some (.ref 1000001), some (.int x3)] [] Z I J (some (.int v2), Z, I, J) ∧ (∃ (v3 : Int32), zE d kX11_at 0 [some (.ref 1000002), some (.int x3)] [] Z I J (some (.int v3), Z, I, J) ∧ (∃ (v4 : Int32), zE d kX6_hasCorner 0 [some (.ref t0), some (.int (x1 + v2)), some (.int (x2 + v3))] [] Z I J (some (.int v4), Z, I, J) ∧ ((v4 = 0 → o = (some (.int 0), Z, I, J)) ∧ (¬ v4 = 0 → o = (some (.int 1), Z, I, J)))))))))))))) : zE (d + 1) kX6_hasStreet 0 [some (.ref t0), some (.int x1), some (.int x2), some (.int x3)] [] Z I J o := by
  refine ex_step (pc' := 1) dX6_hasStreet_0 rfl ?_
  refine ex_step (pc' := 2) (st' := [.int 1, .int x3]) dX6_hasStreet_1 rfl ?_
  refine ex_icmp (pc' := 48) dX6_hasStreet_2 (by decide) (fun c => ?_) (fun c => ?_)
  · have h := h.1 c
    refine ex_step (pc' := 49) (st' := [.int 0]) dX6_hasStreet_48 rfl ?_
    rw [h]; exact ex_ret (v := some (.int 0)) ⟨dX6_hasStreet_49, _, rfl, rfl⟩
  · have h := h.2 c
    refine ex_step (pc' := 6) dX6_hasStreet_5 rfl ?_
    refine ex_step (pc' := 7) (st' := [.int 4, .int x3]) dX6_hasStreet_6 rfl ?_
    refine ex_icmp (pc' := 48) dX6_hasStreet_7 (by decide) (fun c => ?_) (fun c => ?_)
    · have h := h.1 c
      refine ex_step (pc' := 49) (st' := [.int 0]) dX6_hasStreet_48 rfl ?_
      rw [h]; exact ex_ret (v := some (.int 0)) ⟨dX6_hasStreet_49, _, rfl, rfl⟩
    · have h := h.2 c
      refine ex_step (pc' := 11) dX6_hasStreet_10 rfl ?_
      refine ex_step (pc' := 12) dX6_hasStreet_11 rfl ?_
      refine ex_step (pc' := 13) dX6_hasStreet_12 rfl ?_
      obtain ⟨v1, hc, h⟩ := h
      refine ex_callV (as := [.int x1, .int x2]) (st := []) (ci := 6) dX6_hasStreet_13 zmX6_hasCorner zl_RX6_100 ziX6_hasCorner zvX6_hasCorner (by decide) (zTx_o ht0) rfl (Nat.le_of_ble_eq_true rfl) (Nat.le_of_ble_eq_true rfl) hc ?_
      refine ex_if (pc' := 48) dX6_hasStreet_16 (by decide) (fun c => ?_) (fun c => ?_)
      · have h := h.1 c
        refine ex_step (pc' := 49) (st' := [.int 0]) dX6_hasStreet_48 rfl ?_
        rw [h]; exact ex_ret (v := some (.int 0)) ⟨dX6_hasStreet_49, _, rfl, rfl⟩
      · have h := h.2 c
        refine ex_step (pc' := 20) dX6_hasStreet_19 rfl ?_
        refine ex_step (pc' := 21) dX6_hasStreet_20 rfl ?_
        refine ex_gets dX6_hasStreet_21 (Or.inl ⟨rfl, zg_RX6_104⟩) ?_
        refine ex_step (pc' := 25) dX6_hasStreet_24 rfl ?_
        obtain ⟨v2, hc, h⟩ := h
        refine ex_callS (as := [.ref 1000001, .int x3]) (st := [.int x1, .ref t0]) dX6_hasStreet_25 zmX11_at zl_RX6_79 zsX11_at rfl (Nat.le_of_ble_eq_true rfl) (Nat.le_of_ble_eq_true rfl) hc ?_
        refine ex_step (pc' := 29) dX6_hasStreet_28 rfl ?_
        refine ex_step (pc' := 30) dX6_hasStreet_29 rfl ?_
        refine ex_gets dX6_hasStreet_30 (Or.inr ⟨rfl, zg_RX6_107⟩) ?_
        refine ex_step (pc' := 34) dX6_hasStreet_33 rfl ?_
        obtain ⟨v3, hc, h⟩ := h
        refine ex_callS (as := [.ref 1000002, .int x3]) (st := [.int x2, .int (x1 + v2), .ref t0]) dX6_hasStreet_34 zmX11_at zl_RX6_79 zsX11_at rfl (Nat.le_of_ble_eq_true rfl) (Nat.le_of_ble_eq_true rfl) hc ?_
        refine ex_step (pc' := 38) dX6_hasStreet_37 rfl ?_
        obtain ⟨v4, hc, h⟩ := h
        refine ex_callV (as := [.int (x1 + v2), .int (x2 + v3)]) (st := []) (ci := 6) dX6_hasStreet_38 zmX6_hasCorner zl_RX6_100 ziX6_hasCorner zvX6_hasCorner (by decide) (zTx_o ht0) rfl (Nat.le_of_ble_eq_true rfl) (Nat.le_of_ble_eq_true rfl) hc ?_
        refine ex_if (pc' := 48) dX6_hasStreet_41 (by decide) (fun c => ?_) (fun c => ?_)
        · have h := h.1 c
          refine ex_step (pc' := 49) (st' := [.int 0]) dX6_hasStreet_48 rfl ?_
          rw [h]; exact ex_ret (v := some (.int 0)) ⟨dX6_hasStreet_49, _, rfl, rfl⟩
        · have h := h.2 c
          refine ex_step (pc' := 45) (st' := [.int 1]) dX6_hasStreet_44 rfl ?_
          refine ex_step (pc' := 49) dX6_hasStreet_45 rfl ?_
          rw [h]; exact ex_ret (v := some (.int 1)) ⟨dX6_hasStreet_49, _, rfl, rfl⟩
set_option maxHeartbeats 4000000 in
theorem BX6_countErrands_0 {d : Nat} {Z : zZ} {I : zI} {J : zJ} {o : zO} {t0 : Nat} (ht0 : zTx Z t0) (h : zE (d + 1) kX6_countErrands 4 [some (.ref t0), some (.int 0), some (.int 0)] [] Z I J o) : zE (d + 1) kX6_countErrands 0 [some (.ref t0), none, none] [] Z I J o := by
  refine ex_step (pc' := 1) (st' := [.int 0]) dX6_countErrands_0 rfl ?_
  refine ex_step (pc' := 2) (ls' := [some (.ref t0), some (.int 0), none]) dX6_countErrands_1 rfl ?_
  refine ex_step (pc' := 3) (st' := [.int 0]) dX6_countErrands_2 rfl ?_
  refine ex_step (pc' := 4) (ls' := [some (.ref t0), some (.int 0), some (.int 0)]) dX6_countErrands_3 rfl ?_
  exact h
set_option maxHeartbeats 4000000 in
theorem BX6_countErrands_4 {d : Nat} {Z : zZ} {I : zI} {J : zJ} {o : zO} {t0 : Nat} (x1 : Int32) (x2 : Int32) (ht0 : zTx Z t0) (h : (((I t0 2) ≤ x2 → o = (some (.int x1), Z, I, J)) ∧ (¬ (I t0 2) ≤ x2 → (∀ y1 : Int32, y1 = (x1 + (zat I (t0 + 11) 7 x2)) → zE (d + 1) kX6_countErrands 4 [some (.ref t0), some (.int y1), some (.int (x2 + 1))] [] Z I J o)))) : zE (d + 1) kX6_countErrands 4 [some (.ref t0), some (.int x1), some (.int x2)] [] Z I J o := by
  refine ex_step (pc' := 5) dX6_countErrands_4 rfl ?_
  refine ex_step (pc' := 6) dX6_countErrands_5 rfl ?_
  refine ex_geti dX6_countErrands_6 wf_RX6_63 (zTx_o ht0) rfl ?_
  refine ex_icmp (pc' := 29) dX6_countErrands_9 (by decide) (fun c => ?_) (fun c => ?_)
  · have h := h.1 c
    refine ex_step (pc' := 30) dX6_countErrands_29 rfl ?_
    rw [h]; exact ex_ret (v := some (.int x1)) ⟨dX6_countErrands_30, _, rfl, rfl⟩
  · have h := h.2 c
    refine ex_step (pc' := 13) dX6_countErrands_12 rfl ?_
    refine ex_step (pc' := 14) dX6_countErrands_13 rfl ?_
    refine ex_getr dX6_countErrands_14 wf_RX6_34 (zTx_o ht0) rfl (zTx_r12 ht0) ?_
    refine ex_step (pc' := 18) dX6_countErrands_17 rfl ?_
    refine ex_callS (as := [.ref (t0 + 11), .int x2]) (st := [.int x1]) dX6_countErrands_18 zmX11_at zl_RX6_79 zsX11_at rfl (Nat.le_of_ble_eq_true rfl) (Nat.le_of_ble_eq_true rfl) (S_at' (by decide) (zTx_a11 ht0)) ?_
    refine ex_step (pc' := 22) dX6_countErrands_21 rfl ?_
    refine ex_topi (fun y1 ey1 => ?_)
    have h := h y1 ey1
    refine ex_step (pc' := 23) (ls' := [some (.ref t0), some (.int y1), some (.int x2)]) dX6_countErrands_22 rfl ?_
    refine ex_step (pc' := 26) (ls' := [some (.ref t0), some (.int y1), some (.int (x2 + 1))]) dX6_countErrands_23 rfl ?_
    refine ex_step (pc' := 4) dX6_countErrands_26 rfl ?_
    exact h
set_option maxHeartbeats 4000000 in
theorem BX6_errandFrom_0 {d : Nat} {Z : zZ} {I : zI} {J : zJ} {o : zO} {t0 : Nat} (x1 : Int32) (x2 : Int32) (x3 : Int32) (x4 : Int32) (ht0 : zTx Z t0) (h : (∃ (v1 : Int32), zE (d + 1) kX11_apart 0 [some (.int x3), some (.int x4), some (.int (zat I (t0 + 12) 42 ((x1 * 6) + x2))), some (.int (zat I (t0 + 13) 42 ((x1 * 6) + x2)))] [] Z I J (some (.int v1), Z, I, J) ∧ o = (some (.int v1), Z, I, J))) : zE (d + 2) kX6_errandFrom 0 [some (.ref t0), some (.int x1), some (.int x2), some (.int x3), some (.int x4), none] [] Z I J o := by
  refine ex_step (pc' := 1) dX6_errandFrom_0 rfl ?_
  refine ex_step (pc' := 3) (st' := [.int 6, .int x1]) dX6_errandFrom_1 rfl ?_
  refine ex_step (pc' := 4) dX6_errandFrom_3 rfl ?_
  refine ex_step (pc' := 5) dX6_errandFrom_4 rfl ?_
  refine ex_step (pc' := 6) dX6_errandFrom_5 rfl ?_
  refine ex_step (pc' := 8) (ls' := [some (.ref t0), some (.int x1), some (.int x2), some (.int x3), some (.int x4), some (.int ((x1 * 6) + x2))]) dX6_errandFrom_6 rfl ?_
  refine ex_step (pc' := 9) dX6_errandFrom_8 rfl ?_
  refine ex_step (pc' := 11) dX6_errandFrom_9 rfl ?_
  refine ex_step (pc' := 12) dX6_errandFrom_11 rfl ?_
  refine ex_getr dX6_errandFrom_12 wf_RX6_37 (zTx_o ht0) rfl (zTx_r13 ht0) ?_
  refine ex_step (pc' := 17) dX6_errandFrom_15 rfl ?_
  refine ex_callS (as := [.ref (t0 + 12), .int ((x1 * 6) + x2)]) (st := [.int x4, .int x3]) dX6_errandFrom_17 zmX11_at zl_RX6_79 zsX11_at rfl (Nat.le_of_ble_eq_true rfl) (Nat.le_of_ble_eq_true rfl) (S_at' (by decide) (zTx_a12 ht0)) ?_
  refine ex_step (pc' := 21) dX6_errandFrom_20 rfl ?_
  refine ex_getr dX6_errandFrom_21 wf_RX6_40 (zTx_o ht0) rfl (zTx_r14 ht0) ?_
  refine ex_step (pc' := 26) dX6_errandFrom_24 rfl ?_
  refine ex_callS (as := [.ref (t0 + 13), .int ((x1 * 6) + x2)]) (st := [.int (zat I (t0 + 12) 42 ((x1 * 6) + x2)), .int x4, .int x3]) dX6_errandFrom_26 zmX11_at zl_RX6_79 zsX11_at rfl (Nat.le_of_ble_eq_true rfl) (Nat.le_of_ble_eq_true rfl) (S_at' (by decide) (zTx_a13 ht0)) ?_
  obtain ⟨v1, hc, h⟩ := h
  refine ex_callS (as := [.int x3, .int x4, .int (zat I (t0 + 12) 42 ((x1 * 6) + x2)), .int (zat I (t0 + 13) 42 ((x1 * 6) + x2))]) (st := []) dX6_errandFrom_29 zmX11_apart zl_RX6_110 zsX11_apart rfl (Nat.le_of_ble_eq_true rfl) (Nat.le_of_ble_eq_true rfl) hc ?_
  rw [h]; exact ex_ret (v := some (.int v1)) ⟨dX6_errandFrom_32, _, rfl, rfl⟩
set_option maxHeartbeats 4000000 in
theorem BX7_look_0 {d : Nat} {Z : zZ} {I : zI} {J : zJ} {o : zO} {t u : Nat} {t1 : Nat} {d2 : Nat} (hL : zLY Z t u) (ht1 : zTx Z t1) (hd2 : zDy Z d2) (h : (∃ (v1 : Int32), zE (d + 1) kX0_whoseThreadLies 0 [some (.ref d2), some (.ref t1), some (.int 1), none, none] [] Z I J (some (.int v1), Z, I, J) ∧ (∀ I2 : zI, I2 = zu I 401 3 v1 → (∃ (I3 : zI), zE (d + 1) kJ7_fill_53178 0 [some (.ref 402), some (.int 0), none, none] [] Z I2 J (none, Z, I3, J) ∧ (∃ (I4 : zI), zE (d + 1) kJ7_fill_53178 0 [some (.ref 403), some (.int 0), none, none] [] Z I3 J (none, Z, I4, J) ∧ zE (d + 2) kX7_look 28 [some (.ref 401), none, some (.ref d2), some (.int 0)] [] Z I4 J o))))) : zE (d + 2) kX7_look 0 [some (.ref 401), some (.ref t1), some (.ref d2), none] [] Z I J o := by
  refine ex_step (pc' := 1) dX7_look_0 rfl ?_
  refine ex_step (pc' := 2) dX7_look_1 rfl ?_
  refine ex_step (pc' := 3) dX7_look_2 rfl ?_
  refine ex_step (pc' := 4) (st' := [.int 1, .ref t1, .ref d2, .ref 401]) dX7_look_3 rfl ?_
  obtain ⟨v1, hc, h⟩ := h
  refine ex_callV (as := [.ref t1, .int 1]) (st := [.ref 401]) (ci := 0) dX7_look_4 zmX0_whoseThreadLies zl_RX7_27 ziX0_whoseThreadLies zvX0_whoseThreadLies (by decide) (zDy_o hd2) rfl (Nat.le_of_ble_eq_true rfl) (Nat.le_of_ble_eq_true rfl) hc ?_
  refine ex_putiN dX7_look_7 (wp_RX7_33 _) (ly_a401 hL) rfl ⟨rfl, rfl⟩ (fun I2 eI2 => ?_)
  have h := h I2 eI2
  refine ex_step (pc' := 11) dX7_look_10 rfl ?_
  refine ex_getr dX7_look_11 wf_RX7_9 (ly_a401 hL) rfl (ly_r401_0 hL) ?_
  refine ex_step (pc' := 15) (st' := [.int 0, .ref 402]) dX7_look_14 rfl ?_
  obtain ⟨I3, hc, h⟩ := h
  refine ex_callS (as := [.ref 402, .int 0]) (st := []) dX7_look_15 zmJ7_fill_53178 zl_RX7_37 zsJ7_fill_53178 rfl (Nat.le_of_ble_eq_true rfl) (Nat.le_of_ble_eq_true rfl) hc ?_
  refine ex_step (pc' := 19) dX7_look_18 rfl ?_
  refine ex_getr dX7_look_19 wf_RX7_15 (ly_a401 hL) rfl (ly_r401_1 hL) ?_
  refine ex_step (pc' := 23) (st' := [.int 0, .ref 403]) dX7_look_22 rfl ?_
  obtain ⟨I4, hc, h⟩ := h
  refine ex_callS (as := [.ref 403, .int 0]) (st := []) dX7_look_23 zmJ7_fill_53178 zl_RX7_37 zsJ7_fill_53178 rfl (Nat.le_of_ble_eq_true rfl) (Nat.le_of_ble_eq_true rfl) hc ?_
  refine ex_step (pc' := 27) (st' := [.int 0]) dX7_look_26 rfl ?_
  refine ex_step (pc' := 28) (ls' := [some (.ref 401), some (.ref t1), some (.ref d2), some (.int 0)]) dX7_look_27 rfl ?_
  exact ex_less (ls' := [some (.ref 401), none, some (.ref d2), some (.int 0)]) ⟨rfl, ⟨rfl, ⟨rfl, trivial⟩⟩⟩ h
set_option maxHeartbeats 4000000 in
theorem BX7_look_28 {d : Nat} {Z : zZ} {I : zI} {J : zJ} {o : zO} {t u : Nat} {d2 : Nat} (x3 : Int32) (hL : zLY Z t u) (hd2 : zDy Z d2) (h : ((288 ≤ x3 → o = (none, Z, I, J)) ∧ (¬ 288 ≤ x3 → (∃ (I1 : zI), zE (d + 1) kX7_lookAt 0 [some (.ref 401), some (.ref d2), some (.int (zat I (d2 + 9) 288 x3)), none, none, none, none, none] [] Z I J (none, Z, I1, J) ∧ zE (d + 2) kX7_look 28 [some (.ref 401), none, some (.ref d2), some (.int (x3 + 1))] [] Z I1 J o)))) : zE (d + 2) kX7_look 28 [some (.ref 401), none, some (.ref d2), some (.int x3)] [] Z I J o := by
  refine ex_step (pc' := 29) dX7_look_28 rfl ?_
  refine ex_step (pc' := 32) (st' := [.int 288, .int x3]) dX7_look_29 rfl ?_
  refine ex_icmp (pc' := 54) dX7_look_32 (by decide) (fun c => ?_) (fun c => ?_)
  · have h := h.1 c
    rw [h]; exact ex_ret (v := none) ⟨dX7_look_54, rfl⟩
  · have h := h.2 c
    refine ex_step (pc' := 36) dX7_look_35 rfl ?_
    refine ex_step (pc' := 37) dX7_look_36 rfl ?_
    refine ex_step (pc' := 38) dX7_look_37 rfl ?_
    refine ex_getr dX7_look_38 wf_RX7_43 (zDy_o hd2) rfl (zDy_r9 hd2) ?_
    refine ex_step (pc' := 42) dX7_look_41 rfl ?_
    refine ex_callS (as := [.ref (d2 + 9), .int x3]) (st := [.ref d2, .ref 401]) dX7_look_42 zmX11_at zl_RX7_46 zsX11_at rfl (Nat.le_of_ble_eq_true rfl) (Nat.le_of_ble_eq_true rfl) (S_at' (by decide) (zDy_a9 hd2)) ?_
    obtain ⟨I1, hc, h⟩ := h
    refine ex_callV (as := [.ref d2, .int (zat I (d2 + 9) 288 x3)]) (st := []) (ci := 7) dX7_look_45 zmX7_lookAt zl_RX7_50 ziX7_lookAt zvX7_lookAt (by decide) (ly_a401 hL) rfl (Nat.le_of_ble_eq_true rfl) (Nat.le_of_ble_eq_true rfl) hc ?_
    refine ex_step (pc' := 51) (ls' := [some (.ref 401), none, some (.ref d2), some (.int (x3 + 1))]) dX7_look_48 rfl ?_
    refine ex_step (pc' := 28) dX7_look_51 rfl ?_
    exact h
set_option maxHeartbeats 4000000 in
theorem BX7_lookAt_0 {d : Nat} {Z : zZ} {I : zI} {J : zJ} {o : zO} {t u : Nat} {d1 : Nat} (x2 : Int32) (hL : zLY Z t u) (hd1 : zDy Z d1) (h : zE (d + 1) kX7_lookAt 8 [some (.ref 401), some (.ref d1), none, some (.int 0), some (.int x2), some (.int 0), none, none] [] Z I J o) : zE (d + 1) kX7_lookAt 0 [some (.ref 401), some (.ref d1), some (.int x2), none, none, none, none, none] [] Z I J o := by
  refine ex_step (pc' := 1) (st' := [.int 0]) dX7_lookAt_0 rfl ?_
  refine ex_step (pc' := 2) (ls' := [some (.ref 401), some (.ref d1), some (.int x2), some (.int 0), none, none, none, none]) dX7_lookAt_1 rfl ?_
  refine ex_step (pc' := 3) dX7_lookAt_2 rfl ?_
  refine ex_step (pc' := 5) (ls' := [some (.ref 401), some (.ref d1), some (.int x2), some (.int 0), some (.int x2), none, none, none]) dX7_lookAt_3 rfl ?_
  refine ex_step (pc' := 6) (st' := [.int 0]) dX7_lookAt_5 rfl ?_
  refine ex_step (pc' := 8) (ls' := [some (.ref 401), some (.ref d1), some (.int x2), some (.int 0), some (.int x2), some (.int 0), none, none]) dX7_lookAt_6 rfl ?_
  exact ex_less (ls' := [some (.ref 401), some (.ref d1), none, some (.int 0), some (.int x2), some (.int 0), none, none]) ⟨rfl, ⟨rfl, ⟨rfl, ⟨rfl, ⟨rfl, trivial⟩⟩⟩⟩⟩ h
set_option maxHeartbeats 4000000 in
theorem BX7_lookAt_8 {d : Nat} {Z : zZ} {I : zI} {J : zJ} {o : zO} {t u : Nat} {d1 : Nat} (x3 : Int32) (x4 : Int32) (x5 : Int32) (hL : zLY Z t u) (hd1 : zDy Z d1) (h : ((420 ≤ x5 → zE (d + 1) kX7_lookAt 86 [some (.ref 401), none, none, some (.int x3), none, some (.int 0), none, none] [] Z I J o) ∧ (¬ 420 ≤ x5 → ((x4 = 0 → zE (d + 1) kX7_lookAt 86 [some (.ref 401), none, none, some (.int x3), none, some (.int 0), none, none] [] Z I J o) ∧ (¬ x4 = 0 → (∀ y1 : Int32, y1 = (x3 &&& (((1 : Int32) <<< ((zow x4) &&& 31)) ^^^ (-1))) → (∀ I2 : zI, I2 = zpt I 402 7 (zow x4) ((zat I 402 7 (zow x4)) ||| y1) → (∀ y3 : Int32, y3 = (x3 ||| ((1 : Int32) <<< ((zow x4) &&& 31))) → zE (d + 1) kX7_lookAt 8 [some (.ref 401), some (.ref d1), none, some (.int y3), some (.int (zat I2 (d1 + 7) 421 x4)), some (.int (x5 + 1)), none, none] [] Z I2 J o)))))))) : zE (d + 1) kX7_lookAt 8 [some (.ref 401), some (.ref d1), none, some (.int x3), some (.int x4), some (.int x5), none, none] [] Z I J o := by
  refine ex_step (pc' := 10) dX7_lookAt_8 rfl ?_
  refine ex_step (pc' := 13) (st' := [.int 420, .int x5]) dX7_lookAt_10 rfl ?_
  refine ex_icmp (pc' := 83) dX7_lookAt_13 (by decide) (fun c => ?_) (fun c => ?_)
  · have h := h.1 c
    refine ex_step (pc' := 84) (st' := [.int 0]) dX7_lookAt_83 rfl ?_
    refine ex_step (pc' := 86) (ls' := [some (.ref 401), some (.ref d1), none, some (.int x3), some (.int x4), some (.int 0), none, none]) dX7_lookAt_84 rfl ?_
    exact ex_less (ls' := [some (.ref 401), none, none, some (.int x3), none, some (.int 0), none, none]) ⟨rfl, ⟨rfl, ⟨rfl, trivial⟩⟩⟩ h
  · have h := h.2 c
    refine ex_step (pc' := 18) dX7_lookAt_16 rfl ?_
    refine ex_if (pc' := 83) dX7_lookAt_18 (by decide) (fun c => ?_) (fun c => ?_)
    · have h := h.1 c
      refine ex_step (pc' := 84) (st' := [.int 0]) dX7_lookAt_83 rfl ?_
      refine ex_step (pc' := 86) (ls' := [some (.ref 401), some (.ref d1), none, some (.int x3), some (.int x4), some (.int 0), none, none]) dX7_lookAt_84 rfl ?_
      exact ex_less (ls' := [some (.ref 401), none, none, some (.int x3), none, some (.int 0), none, none]) ⟨rfl, ⟨rfl, ⟨rfl, trivial⟩⟩⟩ h
    · have h := h.2 c
      refine ex_step (pc' := 23) dX7_lookAt_21 rfl ?_
      refine ex_callS (as := [.int x4]) (st := []) dX7_lookAt_23 zmX11_ownerOf zl_RX7_54 zsX11_ownerOf rfl (Nat.le_of_ble_eq_true rfl) (Nat.le_of_ble_eq_true rfl) S_ownerOf ?_
      refine ex_step (pc' := 28) (ls' := [some (.ref 401), some (.ref d1), none, some (.int x3), some (.int x4), some (.int x5), some (.int (zow x4)), none]) dX7_lookAt_26 rfl ?_
      refine ex_step (pc' := 29) dX7_lookAt_28 rfl ?_
      refine ex_step (pc' := 30) (st' := [.int 1, .int x3]) dX7_lookAt_29 rfl ?_
      refine ex_step (pc' := 32) dX7_lookAt_30 rfl ?_
      refine ex_step (pc' := 33) dX7_lookAt_32 rfl ?_
      refine ex_step (pc' := 34) (st' := [.int (-1), .int ((1 : Int32) <<< ((zow x4) &&& 31)), .int x3]) dX7_lookAt_33 rfl ?_
      refine ex_step (pc' := 35) dX7_lookAt_34 rfl ?_
      refine ex_step (pc' := 36) dX7_lookAt_35 rfl ?_
      refine ex_topi (fun y1 ey1 => ?_)
      have h := h y1 ey1
      refine ex_step (pc' := 38) (ls' := [some (.ref 401), some (.ref d1), none, some (.int x3), some (.int x4), some (.int x5), some (.int (zow x4)), some (.int y1)]) dX7_lookAt_36 rfl ?_
      refine ex_step (pc' := 39) dX7_lookAt_38 rfl ?_
      refine ex_getr dX7_lookAt_39 wf_RX7_9 (ly_a401 hL) rfl (ly_r401_0 hL) ?_
      refine ex_step (pc' := 44) dX7_lookAt_42 rfl ?_
      refine ex_step (pc' := 45) dX7_lookAt_44 rfl ?_
      refine ex_getr dX7_lookAt_45 wf_RX7_9 (ly_a401 hL) rfl (ly_r401_0 hL) ?_
      refine ex_step (pc' := 50) dX7_lookAt_48 rfl ?_
      refine ex_callS (as := [.ref 402, .int (zow x4)]) (st := [.int (zow x4), .ref 402]) dX7_lookAt_50 zmX11_at zl_RX7_46 zsX11_at rfl (Nat.le_of_ble_eq_true rfl) (Nat.le_of_ble_eq_true rfl) (S_at' (by decide) (ly_a402 hL)) ?_
      refine ex_step (pc' := 55) dX7_lookAt_53 rfl ?_
      refine ex_step (pc' := 56) dX7_lookAt_55 rfl ?_
      obtain ⟨I2, eI2⟩ : ∃ q : zI, q = zpt I 402 7 (zow x4) ((zat I 402 7 (zow x4)) ||| y1) := ⟨_, rfl⟩
      have h := h I2 eI2
      refine ex_callS (as := [.ref 402, .int (zow x4), .int ((zat I 402 7 (zow x4)) ||| y1)]) (st := []) dX7_lookAt_56 zmX11_put zl_RX7_58 zsX11_put rfl (Nat.le_of_ble_eq_true rfl) (Nat.le_of_ble_eq_true rfl) (eI2 ▸ (S_put' (by decide) (ly_a402 hL))) ?_
      refine ex_step (pc' := 60) dX7_lookAt_59 rfl ?_
      refine ex_step (pc' := 61) (st' := [.int 1, .int x3]) dX7_lookAt_60 rfl ?_
      refine ex_step (pc' := 63) dX7_lookAt_61 rfl ?_
      refine ex_step (pc' := 64) dX7_lookAt_63 rfl ?_
      refine ex_step (pc' := 65) dX7_lookAt_64 rfl ?_
      refine ex_topi (fun y3 ey3 => ?_)
      have h := h y3 ey3
      refine ex_step (pc' := 66) (ls' := [some (.ref 401), some (.ref d1), none, some (.int y3), some (.int x4), some (.int x5), some (.int (zow x4)), some (.int y1)]) dX7_lookAt_65 rfl ?_
      refine ex_step (pc' := 67) dX7_lookAt_66 rfl ?_
      refine ex_getr dX7_lookAt_67 wf_RX7_62 (zDy_o hd1) rfl (zDy_r7 hd1) ?_
      refine ex_step (pc' := 72) dX7_lookAt_70 rfl ?_
      refine ex_callS (as := [.ref (d1 + 7), .int x4]) (st := []) dX7_lookAt_72 zmX11_at zl_RX7_46 zsX11_at rfl (Nat.le_of_ble_eq_true rfl) (Nat.le_of_ble_eq_true rfl) (S_at' (by decide) (zDy_a7 hd1)) ?_
      refine ex_step (pc' := 77) (ls' := [some (.ref 401), some (.ref d1), none, some (.int y3), some (.int (zat I2 (d1 + 7) 421 x4)), some (.int x5), some (.int (zow x4)), some (.int y1)]) dX7_lookAt_75 rfl ?_
      refine ex_step (pc' := 80) (ls' := [some (.ref 401), some (.ref d1), none, some (.int y3), some (.int (zat I2 (d1 + 7) 421 x4)), some (.int (x5 + 1)), some (.int (zow x4)), some (.int y1)]) dX7_lookAt_77 rfl ?_
      refine ex_step (pc' := 8) dX7_lookAt_80 rfl ?_
      exact ex_less (ls' := [some (.ref 401), some (.ref d1), none, some (.int y3), some (.int (zat I2 (d1 + 7) 421 x4)), some (.int (x5 + 1)), none, none]) ⟨rfl, ⟨rfl, ⟨rfl, ⟨rfl, ⟨rfl, trivial⟩⟩⟩⟩⟩ h
set_option maxHeartbeats 4000000 in
theorem BX7_lookAt_86 {d : Nat} {Z : zZ} {I : zI} {J : zJ} {o : zO} {t u : Nat} (x3 : Int32) (x5 : Int32) (hL : zLY Z t u)  (h : ((7 ≤ x5 → o = (none, Z, I, J)) ∧ (¬ 7 ≤ x5 → ((((x3 >>> (x5 &&& 31)) &&& 1) = 0 → zE (d + 1) kX7_lookAt 86 [some (.ref 401), none, none, some (.int x3), none, some (.int (x5 + 1)), none, none] [] Z I J o) ∧ (¬ ((x3 >>> (x5 &&& 31)) &&& 1) = 0 → (∀ I1 : zI, I1 = zpt I 403 7 x5 ((zat I 403 7 x5) ||| (x3 &&& (((1 : Int32) <<< (x5 &&& 31)) ^^^ (-1)))) → zE (d + 1) kX7_lookAt 86 [some (.ref 401), none, none, some (.int x3), none, some (.int (x5 + 1)), none, none] [] Z I1 J o)))))) : zE (d + 1) kX7_lookAt 86 [some (.ref 401), none, none, some (.int x3), none, some (.int x5), none, none] [] Z I J o := by
  refine ex_step (pc' := 88) dX7_lookAt_86 rfl ?_
  refine ex_step (pc' := 90) (st' := [.int 7, .int x5]) dX7_lookAt_88 rfl ?_
  refine ex_icmp (pc' := 135) dX7_lookAt_90 (by decide) (fun c => ?_) (fun c => ?_)
  · have h := h.1 c
    rw [h]; exact ex_ret (v := none) ⟨dX7_lookAt_135, rfl⟩
  · have h := h.2 c
    refine ex_step (pc' := 94) dX7_lookAt_93 rfl ?_
    refine ex_step (pc' := 96) dX7_lookAt_94 rfl ?_
    refine ex_step (pc' := 97) dX7_lookAt_96 rfl ?_
    refine ex_step (pc' := 98) (st' := [.int 1, .int (x3 >>> (x5 &&& 31))]) dX7_lookAt_97 rfl ?_
    refine ex_step (pc' := 99) dX7_lookAt_98 rfl ?_
    refine ex_if (pc' := 129) dX7_lookAt_99 (by decide) (fun c => ?_) (fun c => ?_)
    · have h := h.1 c
      refine ex_step (pc' := 132) (ls' := [some (.ref 401), none, none, some (.int x3), none, some (.int (x5 + 1)), none, none]) dX7_lookAt_129 rfl ?_
      refine ex_step (pc' := 86) dX7_lookAt_132 rfl ?_
      exact h
    · have h := h.2 c
      refine ex_step (pc' := 103) dX7_lookAt_102 rfl ?_
      refine ex_getr dX7_lookAt_103 wf_RX7_15 (ly_a401 hL) rfl (ly_r401_1 hL) ?_
      refine ex_step (pc' := 108) dX7_lookAt_106 rfl ?_
      refine ex_step (pc' := 109) dX7_lookAt_108 rfl ?_
      refine ex_getr dX7_lookAt_109 wf_RX7_15 (ly_a401 hL) rfl (ly_r401_1 hL) ?_
      refine ex_step (pc' := 114) dX7_lookAt_112 rfl ?_
      refine ex_callS (as := [.ref 403, .int x5]) (st := [.int x5, .ref 403]) dX7_lookAt_114 zmX11_at zl_RX7_46 zsX11_at rfl (Nat.le_of_ble_eq_true rfl) (Nat.le_of_ble_eq_true rfl) (S_at' (by decide) (ly_a403 hL)) ?_
      refine ex_step (pc' := 118) dX7_lookAt_117 rfl ?_
      refine ex_step (pc' := 119) (st' := [.int 1, .int x3, .int (zat I 403 7 x5), .int x5, .ref 403]) dX7_lookAt_118 rfl ?_
      refine ex_step (pc' := 121) dX7_lookAt_119 rfl ?_
      refine ex_step (pc' := 122) dX7_lookAt_121 rfl ?_
      refine ex_step (pc' := 123) (st' := [.int (-1), .int ((1 : Int32) <<< (x5 &&& 31)), .int x3, .int (zat I 403 7 x5), .int x5, .ref 403]) dX7_lookAt_122 rfl ?_
      refine ex_step (pc' := 124) dX7_lookAt_123 rfl ?_
      refine ex_step (pc' := 125) dX7_lookAt_124 rfl ?_
      refine ex_step (pc' := 126) dX7_lookAt_125 rfl ?_
      obtain ⟨I1, eI1⟩ : ∃ q : zI, q = zpt I 403 7 x5 ((zat I 403 7 x5) ||| (x3 &&& (((1 : Int32) <<< (x5 &&& 31)) ^^^ (-1)))) := ⟨_, rfl⟩
      have h := h I1 eI1
      refine ex_callS (as := [.ref 403, .int x5, .int ((zat I 403 7 x5) ||| (x3 &&& (((1 : Int32) <<< (x5 &&& 31)) ^^^ (-1))))]) (st := []) dX7_lookAt_126 zmX11_put zl_RX7_58 zsX11_put rfl (Nat.le_of_ble_eq_true rfl) (Nat.le_of_ble_eq_true rfl) (eI1 ▸ (S_put' (by decide) (ly_a403 hL))) ?_
      refine ex_step (pc' := 132) (ls' := [some (.ref 401), none, none, some (.int x3), none, some (.int (x5 + 1)), none, none]) dX7_lookAt_129 rfl ?_
      refine ex_step (pc' := 86) dX7_lookAt_132 rfl ?_
      exact h
set_option maxHeartbeats 4000000 in
theorem BX7_countOrders_0 {d : Nat} {Z : zZ} {I : zI} {J : zJ} {o : zO} {t u : Nat}  (hL : zLY Z t u)  (h : (∃ (I1 : zI), zE d kJ7_fill_53178 0 [some (.ref 406), some (.int 0), none, none] [] Z I J (none, Z, I1, J) ∧ (∀ I2 : zI, I2 = zpt I1 406 128 0 1 → zE (d + 1) kX7_countOrders 19 [some (.ref 401), some (.int 0), none, none, none] [] Z I2 J o))) : zE (d + 1) kX7_countOrders 0 [some (.ref 401), none, none, none, none] [] Z I J o := by
  refine ex_step (pc' := 1) dX7_countOrders_0 rfl ?_
  refine ex_getr dX7_countOrders_1 wf_RX7_24 (ly_a401 hL) rfl (ly_r401_5 hL) ?_
  refine ex_step (pc' := 5) (st' := [.int 0, .ref 406]) dX7_countOrders_4 rfl ?_
  obtain ⟨I1, hc, h⟩ := h
  refine ex_callS (as := [.ref 406, .int 0]) (st := []) dX7_countOrders_5 zmJ7_fill_53178 zl_RX7_37 zsJ7_fill_53178 rfl (Nat.le_of_ble_eq_true rfl) (Nat.le_of_ble_eq_true rfl) hc ?_
  refine ex_step (pc' := 9) dX7_countOrders_8 rfl ?_
  refine ex_getr dX7_countOrders_9 wf_RX7_24 (ly_a401 hL) rfl (ly_r401_5 hL) ?_
  refine ex_step (pc' := 13) (st' := [.int 0, .ref 406]) dX7_countOrders_12 rfl ?_
  refine ex_step (pc' := 14) (st' := [.int 1, .int 0, .ref 406]) dX7_countOrders_13 rfl ?_
  obtain ⟨I2, eI2⟩ : ∃ q : zI, q = zpt I1 406 128 0 1 := ⟨_, rfl⟩
  have h := h I2 eI2
  refine ex_callS (as := [.ref 406, .int 0, .int 1]) (st := []) dX7_countOrders_14 zmX11_put zl_RX7_58 zsX11_put rfl (Nat.le_of_ble_eq_true rfl) (Nat.le_of_ble_eq_true rfl) (eI2 ▸ (S_put' (by decide) (ly_a406 hL))) ?_
  refine ex_step (pc' := 18) (st' := [.int 0]) dX7_countOrders_17 rfl ?_
  refine ex_step (pc' := 19) (ls' := [some (.ref 401), some (.int 0), none, none, none]) dX7_countOrders_18 rfl ?_
  exact h
set_option maxHeartbeats 4000000 in
theorem BX7_countOrders_19 {d : Nat} {Z : zZ} {I : zI} {J : zJ} {o : zO} {t u : Nat} (x1 : Int32) (hL : zLY Z t u)  (h : (((Int32.ofNat 128) ≤ x1 → o = (some (.int (zat I 406 128 (I 401 3))), Z, I, J)) ∧ (¬ (Int32.ofNat 128) ≤ x1 → zE (d + 1) kX7_countOrders 30 [some (.ref 401), some (.int x1), some (.int 0), none, none] [] Z I J o))) : zE (d + 1) kX7_countOrders 19 [some (.ref 401), some (.int x1), none, none, none] [] Z I J o := by
  refine ex_step (pc' := 20) dX7_countOrders_19 rfl ?_
  refine ex_step (pc' := 21) dX7_countOrders_20 rfl ?_
  refine ex_getr dX7_countOrders_21 wf_RX7_24 (ly_a401 hL) rfl (ly_r401_5 hL) ?_
  refine ex_alen dX7_countOrders_24 (Or.inl ⟨(ly_a406 hL), by decide, by decide⟩) ?_
  refine ex_icmp (pc' := 121) dX7_countOrders_25 (by decide) (fun c => ?_) (fun c => ?_)
  · have h := h.1 c
    refine ex_step (pc' := 122) dX7_countOrders_121 rfl ?_
    refine ex_getr dX7_countOrders_122 wf_RX7_24 (ly_a401 hL) rfl (ly_r401_5 hL) ?_
    refine ex_step (pc' := 126) dX7_countOrders_125 rfl ?_
    refine ex_geti dX7_countOrders_126 wf_RX7_33 (ly_a401 hL) rfl ?_
    refine ex_callS (as := [.ref 406, .int (I 401 3)]) (st := []) dX7_countOrders_129 zmX11_at zl_RX7_46 zsX11_at rfl (Nat.le_of_ble_eq_true rfl) (Nat.le_of_ble_eq_true rfl) (S_at' (by decide) (ly_a406 hL)) ?_
    rw [h]; exact ex_ret (v := some (.int (zat I 406 128 (I 401 3)))) ⟨dX7_countOrders_132, _, rfl, rfl⟩
  · have h := h.2 c
    refine ex_step (pc' := 29) (st' := [.int 0]) dX7_countOrders_28 rfl ?_
    refine ex_step (pc' := 30) (ls' := [some (.ref 401), some (.int x1), some (.int 0), none, none]) dX7_countOrders_29 rfl ?_
    exact h
set_option maxHeartbeats 4000000 in
theorem BX7_countOrders_30 {d : Nat} {Z : zZ} {I : zI} {J : zJ} {o : zO} {t u : Nat} (x1 : Int32) (x2 : Int32) (hL : zLY Z t u)  (h : ((7 ≤ x2 → zE (d + 1) kX7_countOrders 19 [some (.ref 401), some (.int (x1 + 1)), none, none, none] [] Z I J o) ∧ (¬ 7 ≤ x2 → (∀ y1 : Int32, y1 = (x1 ||| ((1 : Int32) <<< (x2 &&& 31))) → (((((I 401 3) &&& (x1 ^^^ (-1))) &&& ((1 : Int32) <<< (x2 &&& 31))) = 0 → zE (d + 1) kX7_countOrders 30 [some (.ref 401), some (.int x1), some (.int (x2 + 1)), none, none] [] Z I J o) ∧ (¬ (((I 401 3) &&& (x1 ^^^ (-1))) &&& ((1 : Int32) <<< (x2 &&& 31))) = 0 → ((¬ ((zat I 402 7 x2) &&& (x1 ^^^ (-1))) = 0 → zE (d + 1) kX7_countOrders 30 [some (.ref 401), some (.int x1), some (.int (x2 + 1)), none, none] [] Z I J o) ∧ (((zat I 402 7 x2) &&& (x1 ^^^ (-1))) = 0 → (∀ I2 : zI, I2 = zpt I 406 128 y1 ((zat I 406 128 y1) + (zat I 406 128 x1)) → zE (d + 1) kX7_countOrders 30 [some (.ref 401), some (.int x1), some (.int (x2 + 1)), none, none] [] Z I2 J o))))))))) : zE (d + 1) kX7_countOrders 30 [some (.ref 401), some (.int x1), some (.int x2), none, none] [] Z I J o := by
  refine ex_step (pc' := 31) dX7_countOrders_30 rfl ?_
  refine ex_step (pc' := 33) (st' := [.int 7, .int x2]) dX7_countOrders_31 rfl ?_
  refine ex_icmp (pc' := 115) dX7_countOrders_33 (by decide) (fun c => ?_) (fun c => ?_)
  · have h := h.1 c
    refine ex_step (pc' := 118) (ls' := [some (.ref 401), some (.int (x1 + 1)), some (.int x2), none, none]) dX7_countOrders_115 rfl ?_
    refine ex_step (pc' := 19) dX7_countOrders_118 rfl ?_
    exact ex_less (ls' := [some (.ref 401), some (.int (x1 + 1)), none, none, none]) ⟨rfl, ⟨rfl, trivial⟩⟩ h
  · have h := h.2 c
    refine ex_step (pc' := 37) dX7_countOrders_36 rfl ?_
    refine ex_step (pc' := 38) (st' := [.int 1, .int x1]) dX7_countOrders_37 rfl ?_
    refine ex_step (pc' := 39) dX7_countOrders_38 rfl ?_
    refine ex_step (pc' := 40) dX7_countOrders_39 rfl ?_
    refine ex_step (pc' := 41) dX7_countOrders_40 rfl ?_
    refine ex_topi (fun y1 ey1 => ?_)
    have h := h y1 ey1
    refine ex_step (pc' := 42) (ls' := [some (.ref 401), some (.int x1), some (.int x2), some (.int y1), none]) dX7_countOrders_41 rfl ?_
    refine ex_step (pc' := 43) dX7_countOrders_42 rfl ?_
    refine ex_geti dX7_countOrders_43 wf_RX7_33 (ly_a401 hL) rfl ?_
    refine ex_step (pc' := 47) dX7_countOrders_46 rfl ?_
    refine ex_step (pc' := 48) (st' := [.int (-1), .int x1, .int (I 401 3)]) dX7_countOrders_47 rfl ?_
    refine ex_step (pc' := 49) dX7_countOrders_48 rfl ?_
    refine ex_step (pc' := 50) dX7_countOrders_49 rfl ?_
    refine ex_step (pc' := 51) (st' := [.int 1, .int ((I 401 3) &&& (x1 ^^^ (-1)))]) dX7_countOrders_50 rfl ?_
    refine ex_step (pc' := 52) dX7_countOrders_51 rfl ?_
    refine ex_step (pc' := 53) dX7_countOrders_52 rfl ?_
    refine ex_step (pc' := 54) dX7_countOrders_53 rfl ?_
    refine ex_if (pc' := 61) dX7_countOrders_54 (by decide) (fun c => ?_) (fun c => ?_)
    · have h := h.1 c
      refine ex_step (pc' := 62) (st' := [.int 0]) dX7_countOrders_61 rfl ?_
      refine ex_step (pc' := 64) (ls' := [some (.ref 401), some (.int x1), some (.int x2), some (.int y1), some (.int 0)]) dX7_countOrders_62 rfl ?_
      refine ex_step (pc' := 66) dX7_countOrders_64 rfl ?_
      refine ex_if (pc' := 109) dX7_countOrders_66 (by decide) (fun c => ?_) (fun c => ?_)
      · skip
        refine ex_step (pc' := 112) (ls' := [some (.ref 401), some (.int x1), some (.int (x2 + 1)), some (.int y1), some (.int 0)]) dX7_countOrders_109 rfl ?_
        refine ex_step (pc' := 30) dX7_countOrders_112 rfl ?_
        exact ex_less (ls' := [some (.ref 401), some (.int x1), some (.int (x2 + 1)), none, none]) ⟨rfl, ⟨rfl, ⟨rfl, trivial⟩⟩⟩ h
      · exact absurd (show (0 : Int32) = 0 from by decide) c
    · have h := h.2 c
      refine ex_step (pc' := 58) (st' := [.int 1]) dX7_countOrders_57 rfl ?_
      refine ex_step (pc' := 62) dX7_countOrders_58 rfl ?_
      refine ex_step (pc' := 64) (ls' := [some (.ref 401), some (.int x1), some (.int x2), some (.int y1), some (.int 1)]) dX7_countOrders_62 rfl ?_
      refine ex_step (pc' := 66) dX7_countOrders_64 rfl ?_
      refine ex_if (pc' := 109) dX7_countOrders_66 (by decide) (fun c => ?_) (fun c => ?_)
      · exact absurd (show (1 : Int32) = 0 from c) (by decide)
      · skip
        refine ex_step (pc' := 70) dX7_countOrders_69 rfl ?_
        refine ex_getr dX7_countOrders_70 wf_RX7_9 (ly_a401 hL) rfl (ly_r401_0 hL) ?_
        refine ex_step (pc' := 74) dX7_countOrders_73 rfl ?_
        refine ex_callS (as := [.ref 402, .int x2]) (st := []) dX7_countOrders_74 zmX11_at zl_RX7_46 zsX11_at rfl (Nat.le_of_ble_eq_true rfl) (Nat.le_of_ble_eq_true rfl) (S_at' (by decide) (ly_a402 hL)) ?_
        refine ex_step (pc' := 78) dX7_countOrders_77 rfl ?_
        refine ex_step (pc' := 79) (st' := [.int (-1), .int x1, .int (zat I 402 7 x2)]) dX7_countOrders_78 rfl ?_
        refine ex_step (pc' := 80) dX7_countOrders_79 rfl ?_
        refine ex_step (pc' := 81) dX7_countOrders_80 rfl ?_
        refine ex_if (pc' := 109) dX7_countOrders_81 (by decide) (fun c => ?_) (fun c => ?_)
        · have h := h.1 c
          refine ex_step (pc' := 112) (ls' := [some (.ref 401), some (.int x1), some (.int (x2 + 1)), some (.int y1), some (.int 1)]) dX7_countOrders_109 rfl ?_
          refine ex_step (pc' := 30) dX7_countOrders_112 rfl ?_
          exact ex_less (ls' := [some (.ref 401), some (.int x1), some (.int (x2 + 1)), none, none]) ⟨rfl, ⟨rfl, ⟨rfl, trivial⟩⟩⟩ h
        · have h := h.2 (Classical.not_not.mp c)
          refine ex_step (pc' := 85) dX7_countOrders_84 rfl ?_
          refine ex_getr dX7_countOrders_85 wf_RX7_24 (ly_a401 hL) rfl (ly_r401_5 hL) ?_
          refine ex_step (pc' := 89) dX7_countOrders_88 rfl ?_
          refine ex_step (pc' := 90) dX7_countOrders_89 rfl ?_
          refine ex_getr dX7_countOrders_90 wf_RX7_24 (ly_a401 hL) rfl (ly_r401_5 hL) ?_
          refine ex_step (pc' := 94) dX7_countOrders_93 rfl ?_
          refine ex_callS (as := [.ref 406, .int y1]) (st := [.int y1, .ref 406]) dX7_countOrders_94 zmX11_at zl_RX7_46 zsX11_at rfl (Nat.le_of_ble_eq_true rfl) (Nat.le_of_ble_eq_true rfl) (S_at' (by decide) (ly_a406 hL)) ?_
          refine ex_step (pc' := 98) dX7_countOrders_97 rfl ?_
          refine ex_getr dX7_countOrders_98 wf_RX7_24 (ly_a401 hL) rfl (ly_r401_5 hL) ?_
          refine ex_step (pc' := 102) dX7_countOrders_101 rfl ?_
          refine ex_callS (as := [.ref 406, .int x1]) (st := [.int (zat I 406 128 y1), .int y1, .ref 406]) dX7_countOrders_102 zmX11_at zl_RX7_46 zsX11_at rfl (Nat.le_of_ble_eq_true rfl) (Nat.le_of_ble_eq_true rfl) (S_at' (by decide) (ly_a406 hL)) ?_
          refine ex_step (pc' := 106) dX7_countOrders_105 rfl ?_
          obtain ⟨I2, eI2⟩ : ∃ q : zI, q = zpt I 406 128 y1 ((zat I 406 128 y1) + (zat I 406 128 x1)) := ⟨_, rfl⟩
          have h := h I2 eI2
          refine ex_callS (as := [.ref 406, .int y1, .int ((zat I 406 128 y1) + (zat I 406 128 x1))]) (st := []) dX7_countOrders_106 zmX11_put zl_RX7_58 zsX11_put rfl (Nat.le_of_ble_eq_true rfl) (Nat.le_of_ble_eq_true rfl) (eI2 ▸ (S_put' (by decide) (ly_a406 hL))) ?_
          refine ex_step (pc' := 112) (ls' := [some (.ref 401), some (.int x1), some (.int (x2 + 1)), some (.int y1), some (.int 1)]) dX7_countOrders_109 rfl ?_
          refine ex_step (pc' := 30) dX7_countOrders_112 rfl ?_
          exact ex_less (ls' := [some (.ref 401), some (.int x1), some (.int (x2 + 1)), none, none]) ⟨rfl, ⟨rfl, ⟨rfl, trivial⟩⟩⟩ h
set_option maxHeartbeats 4000000 in
theorem BX7_findOrder_0 {d : Nat} {Z : zZ} {I : zI} {J : zJ} {o : zO} {t u : Nat} (x1 : Int32) (hL : zLY Z t u)  (h : (∀ y1 : Int32, y1 = ((I 401 3) &&& (x1 ^^^ (-1))) → zE (d + 2) kX7_findOrder 11 [some (.ref 401), none, some (.int y1), some (.int 0), none] [] Z I J o)) : zE (d + 2) kX7_findOrder 0 [some (.ref 401), some (.int x1), none, none, none] [] Z I J o := by
  refine ex_step (pc' := 1) dX7_findOrder_0 rfl ?_
  refine ex_geti dX7_findOrder_1 wf_RX7_33 (ly_a401 hL) rfl ?_
  refine ex_step (pc' := 5) dX7_findOrder_4 rfl ?_
  refine ex_step (pc' := 6) (st' := [.int (-1), .int x1, .int (I 401 3)]) dX7_findOrder_5 rfl ?_
  refine ex_step (pc' := 7) dX7_findOrder_6 rfl ?_
  refine ex_step (pc' := 8) dX7_findOrder_7 rfl ?_
  refine ex_topi (fun y1 ey1 => ?_)
  have h := h y1 ey1
  refine ex_step (pc' := 9) (ls' := [some (.ref 401), some (.int x1), some (.int y1), none, none]) dX7_findOrder_8 rfl ?_
  refine ex_step (pc' := 10) (st' := [.int 0]) dX7_findOrder_9 rfl ?_
  refine ex_step (pc' := 11) (ls' := [some (.ref 401), some (.int x1), some (.int y1), some (.int 0), none]) dX7_findOrder_10 rfl ?_
  exact ex_less (ls' := [some (.ref 401), none, some (.int y1), some (.int 0), none]) ⟨rfl, ⟨rfl, ⟨rfl, trivial⟩⟩⟩ h
set_option maxHeartbeats 4000000 in
theorem BX7_findOrder_11 {d : Nat} {Z : zZ} {I : zI} {J : zJ} {o : zO} {t u : Nat} (x2 : Int32) (x3 : Int32) (hL : zLY Z t u)  (h : ((7 ≤ x3 → o = (some (.int 1), Z, I, J)) ∧ (¬ 7 ≤ x3 → ((x2 = 0 → o = (some (.int 1), Z, I, J)) ∧ (¬ x2 = 0 → (∃ (v1 : Int32), zE (d + 1) kX7_firstFree 0 [some (.ref 401), some (.int x2), none] [] Z I J (some (.int v1), Z, I, J) ∧ ((¬ v1 = (-1) → (∀ I2 : zI, I2 = zpt I 404 7 x3 v1 → (∀ y3 : Int32, y3 = (x2 &&& (((1 : Int32) <<< (v1 &&& 31)) ^^^ (-1))) → zE (d + 2) kX7_findOrder 11 [some (.ref 401), none, some (.int y3), some (.int (x3 + 1)), none] [] Z I2 J o))) ∧ (v1 = (-1) → o = (some (.int 0), Z, I, J))))))))) : zE (d + 2) kX7_findOrder 11 [some (.ref 401), none, some (.int x2), some (.int x3), none] [] Z I J o := by
  refine ex_step (pc' := 12) dX7_findOrder_11 rfl ?_
  refine ex_step (pc' := 14) (st' := [.int 7, .int x3]) dX7_findOrder_12 rfl ?_
  refine ex_icmp (pc' := 61) dX7_findOrder_14 (by decide) (fun c => ?_) (fun c => ?_)
  · have h := h.1 c
    refine ex_step (pc' := 62) (st' := [.int 1]) dX7_findOrder_61 rfl ?_
    rw [h]; exact ex_ret (v := some (.int 1)) ⟨dX7_findOrder_62, _, rfl, rfl⟩
  · have h := h.2 c
    refine ex_step (pc' := 18) dX7_findOrder_17 rfl ?_
    refine ex_if (pc' := 61) dX7_findOrder_18 (by decide) (fun c => ?_) (fun c => ?_)
    · have h := h.1 c
      refine ex_step (pc' := 62) (st' := [.int 1]) dX7_findOrder_61 rfl ?_
      rw [h]; exact ex_ret (v := some (.int 1)) ⟨dX7_findOrder_62, _, rfl, rfl⟩
    · have h := h.2 c
      refine ex_step (pc' := 22) dX7_findOrder_21 rfl ?_
      refine ex_step (pc' := 23) dX7_findOrder_22 rfl ?_
      obtain ⟨v1, hc, h⟩ := h
      refine ex_callV (as := [.int x2]) (st := []) (ci := 7) dX7_findOrder_23 zmX7_firstFree zl_RX7_65 ziX7_firstFree zvX7_firstFree (by decide) (ly_a401 hL) rfl (Nat.le_of_ble_eq_true rfl) (Nat.le_of_ble_eq_true rfl) hc ?_
      refine ex_step (pc' := 28) (ls' := [some (.ref 401), none, some (.int x2), some (.int x3), some (.int v1)]) dX7_findOrder_26 rfl ?_
      refine ex_step (pc' := 30) dX7_findOrder_28 rfl ?_
      refine ex_step (pc' := 31) (st' := [.int (-1), .int v1]) dX7_findOrder_30 rfl ?_
      refine ex_icmp (pc' := 36) dX7_findOrder_31 (by decide) (fun c => ?_) (fun c => ?_)
      · have h := h.1 c
        refine ex_step (pc' := 37) dX7_findOrder_36 rfl ?_
        refine ex_getr dX7_findOrder_37 wf_RX7_18 (ly_a401 hL) rfl (ly_r401_2 hL) ?_
        refine ex_step (pc' := 41) dX7_findOrder_40 rfl ?_
        refine ex_step (pc' := 43) dX7_findOrder_41 rfl ?_
        obtain ⟨I2, eI2⟩ : ∃ q : zI, q = zpt I 404 7 x3 v1 := ⟨_, rfl⟩
        have h := h I2 eI2
        refine ex_callS (as := [.ref 404, .int x3, .int v1]) (st := []) dX7_findOrder_43 zmX11_put zl_RX7_58 zsX11_put rfl (Nat.le_of_ble_eq_true rfl) (Nat.le_of_ble_eq_true rfl) (eI2 ▸ (S_put' (by decide) (ly_a404 hL))) ?_
        refine ex_step (pc' := 47) dX7_findOrder_46 rfl ?_
        refine ex_step (pc' := 48) (st' := [.int 1, .int x2]) dX7_findOrder_47 rfl ?_
        refine ex_step (pc' := 50) dX7_findOrder_48 rfl ?_
        refine ex_step (pc' := 51) dX7_findOrder_50 rfl ?_
        refine ex_step (pc' := 52) (st' := [.int (-1), .int ((1 : Int32) <<< (v1 &&& 31)), .int x2]) dX7_findOrder_51 rfl ?_
        refine ex_step (pc' := 53) dX7_findOrder_52 rfl ?_
        refine ex_step (pc' := 54) dX7_findOrder_53 rfl ?_
        refine ex_topi (fun y3 ey3 => ?_)
        have h := h y3 ey3
        refine ex_step (pc' := 55) (ls' := [some (.ref 401), none, some (.int y3), some (.int x3), some (.int v1)]) dX7_findOrder_54 rfl ?_
        refine ex_step (pc' := 58) (ls' := [some (.ref 401), none, some (.int y3), some (.int (x3 + 1)), some (.int v1)]) dX7_findOrder_55 rfl ?_
        refine ex_step (pc' := 11) dX7_findOrder_58 rfl ?_
        exact ex_less (ls' := [some (.ref 401), none, some (.int y3), some (.int (x3 + 1)), none]) ⟨rfl, ⟨rfl, ⟨rfl, trivial⟩⟩⟩ h
      · have h := h.2 (Classical.not_not.mp c)
        refine ex_step (pc' := 35) (st' := [.int 0]) dX7_findOrder_34 rfl ?_
        rw [h]; exact ex_ret (v := some (.int 0)) ⟨dX7_findOrder_35, _, rfl, rfl⟩
set_option maxHeartbeats 4000000 in
theorem BX7_firstFree_0 {d : Nat} {Z : zZ} {I : zI} {J : zJ} {o : zO} {t u : Nat} (x1 : Int32) (hL : zLY Z t u)  (h : zE (d + 1) kX7_firstFree 2 [some (.ref 401), some (.int x1), some (.int 0)] [] Z I J o) : zE (d + 1) kX7_firstFree 0 [some (.ref 401), some (.int x1), none] [] Z I J o := by
  refine ex_step (pc' := 1) (st' := [.int 0]) dX7_firstFree_0 rfl ?_
  refine ex_step (pc' := 2) (ls' := [some (.ref 401), some (.int x1), some (.int 0)]) dX7_firstFree_1 rfl ?_
  exact h
set_option maxHeartbeats 4000000 in
theorem BX7_firstFree_2 {d : Nat} {Z : zZ} {I : zI} {J : zJ} {o : zO} {t u : Nat} (x1 : Int32) (x2 : Int32) (hL : zLY Z t u)  (h : ((7 ≤ x2 → o = (some (.int (-1)), Z, I, J)) ∧ (¬ 7 ≤ x2 → ((((x1 >>> (x2 &&& 31)) &&& 1) = 0 → zE (d + 1) kX7_firstFree 2 [some (.ref 401), some (.int x1), some (.int (x2 + 1))] [] Z I J o) ∧ (¬ ((x1 >>> (x2 &&& 31)) &&& 1) = 0 → ((¬ ((zat I 402 7 x2) &&& x1) = 0 → zE (d + 1) kX7_firstFree 2 [some (.ref 401), some (.int x1), some (.int (x2 + 1))] [] Z I J o) ∧ (((zat I 402 7 x2) &&& x1) = 0 → o = (some (.int x2), Z, I, J)))))))) : zE (d + 1) kX7_firstFree 2 [some (.ref 401), some (.int x1), some (.int x2)] [] Z I J o := by
  refine ex_step (pc' := 3) dX7_firstFree_2 rfl ?_
  refine ex_step (pc' := 5) (st' := [.int 7, .int x2]) dX7_firstFree_3 rfl ?_
  refine ex_icmp (pc' := 37) dX7_firstFree_5 (by decide) (fun c => ?_) (fun c => ?_)
  · have h := h.1 c
    refine ex_step (pc' := 38) (st' := [.int (-1)]) dX7_firstFree_37 rfl ?_
    rw [h]; exact ex_ret (v := some (.int (-1))) ⟨dX7_firstFree_38, _, rfl, rfl⟩
  · have h := h.2 c
    refine ex_step (pc' := 9) dX7_firstFree_8 rfl ?_
    refine ex_step (pc' := 10) dX7_firstFree_9 rfl ?_
    refine ex_step (pc' := 11) dX7_firstFree_10 rfl ?_
    refine ex_step (pc' := 12) (st' := [.int 1, .int (x1 >>> (x2 &&& 31))]) dX7_firstFree_11 rfl ?_
    refine ex_step (pc' := 13) dX7_firstFree_12 rfl ?_
    refine ex_if (pc' := 31) dX7_firstFree_13 (by decide) (fun c => ?_) (fun c => ?_)
    · have h := h.1 c
      refine ex_step (pc' := 34) (ls' := [some (.ref 401), some (.int x1), some (.int (x2 + 1))]) dX7_firstFree_31 rfl ?_
      refine ex_step (pc' := 2) dX7_firstFree_34 rfl ?_
      exact h
    · have h := h.2 c
      refine ex_step (pc' := 17) dX7_firstFree_16 rfl ?_
      refine ex_getr dX7_firstFree_17 wf_RX7_9 (ly_a401 hL) rfl (ly_r401_0 hL) ?_
      refine ex_step (pc' := 21) dX7_firstFree_20 rfl ?_
      refine ex_callS (as := [.ref 402, .int x2]) (st := []) dX7_firstFree_21 zmX11_at zl_RX7_46 zsX11_at rfl (Nat.le_of_ble_eq_true rfl) (Nat.le_of_ble_eq_true rfl) (S_at' (by decide) (ly_a402 hL)) ?_
      refine ex_step (pc' := 25) dX7_firstFree_24 rfl ?_
      refine ex_step (pc' := 26) dX7_firstFree_25 rfl ?_
      refine ex_if (pc' := 31) dX7_firstFree_26 (by decide) (fun c => ?_) (fun c => ?_)
      · have h := h.1 c
        refine ex_step (pc' := 34) (ls' := [some (.ref 401), some (.int x1), some (.int (x2 + 1))]) dX7_firstFree_31 rfl ?_
        refine ex_step (pc' := 2) dX7_firstFree_34 rfl ?_
        exact h
      · have h := h.2 (Classical.not_not.mp c)
        refine ex_step (pc' := 30) dX7_firstFree_29 rfl ?_
        rw [h]; exact ex_ret (v := some (.int x2)) ⟨dX7_firstFree_30, _, rfl, rfl⟩
set_option maxHeartbeats 4000000 in
theorem BX7_fewestCuts_0 {d : Nat} {Z : zZ} {I : zI} {J : zJ} {o : zO} {t u : Nat} {t1 : Nat} {d2 : Nat} (hL : zLY Z t u) (ht1 : zTx Z t1) (hd2 : zDy Z d2) (h : zE (d + 3) kX7_fewestCuts 8 [some (.ref 401), some (.ref t1), some (.ref d2), some (.int (I 401 3)), some (.int 0)] [] Z I J o) : zE (d + 3) kX7_fewestCuts 0 [some (.ref 401), some (.ref t1), some (.ref d2), none, none] [] Z I J o := by
  refine ex_step (pc' := 1) dX7_fewestCuts_0 rfl ?_
  refine ex_geti dX7_fewestCuts_1 wf_RX7_33 (ly_a401 hL) rfl ?_
  refine ex_step (pc' := 5) (ls' := [some (.ref 401), some (.ref t1), some (.ref d2), some (.int (I 401 3)), none]) dX7_fewestCuts_4 rfl ?_
  refine ex_step (pc' := 6) (st' := [.int 0]) dX7_fewestCuts_5 rfl ?_
  refine ex_step (pc' := 8) (ls' := [some (.ref 401), some (.ref t1), some (.ref d2), some (.int (I 401 3)), some (.int 0)]) dX7_fewestCuts_6 rfl ?_
  exact h
set_option maxHeartbeats 4000000 in
theorem BX7_fewestCuts_8 {d : Nat} {Z : zZ} {I : zI} {J : zJ} {o : zO} {t u : Nat} {t1 : Nat} {d2 : Nat} (x3 : Int32) (x4 : Int32) (hL : zLY Z t u) (ht1 : zTx Z t1) (hd2 : zDy Z d2) (h : ((128 ≤ x4 → o = (some (.int x3), Z, I, J)) ∧ (¬ 128 ≤ x4 → ((¬ (x4 &&& ((I 401 3) ^^^ (-1))) = 0 → zE (d + 3) kX7_fewestCuts 8 [some (.ref 401), some (.ref t1), some (.ref d2), some (.int x3), some (.int (x4 + 1))] [] Z I J o) ∧ ((x4 &&& ((I 401 3) ^^^ (-1))) = 0 → (∃ (v1 : Int32) (I2 : zI), zE (d + 2) kX7_findOrder 0 [some (.ref 401), some (.int x4), none, none, none] [] Z I J (some (.int v1), Z, I2, J) ∧ ((v1 = 0 → zE (d + 3) kX7_fewestCuts 8 [some (.ref 401), some (.ref t1), some (.ref d2), some (.int x3), some (.int (x4 + 1))] [] Z I2 J o) ∧ (¬ v1 = 0 → (∃ (v3 : Int32), zE (d + 2) kX7_isLess 0 [some (.ref t1), some (.ref d2), some (.int x4), some (.int x3), none] [] Z I2 J (some (.int v3), Z, I2, J) ∧ ((v3 = 0 → zE (d + 3) kX7_fewestCuts 8 [some (.ref 401), some (.ref t1), some (.ref d2), some (.int x3), some (.int (x4 + 1))] [] Z I2 J o) ∧ (¬ v3 = 0 → zE (d + 3) kX7_fewestCuts 8 [some (.ref 401), some (.ref t1), some (.ref d2), some (.int x4), some (.int (x4 + 1))] [] Z I2 J o))))))))))) : zE (d + 3) kX7_fewestCuts 8 [some (.ref 401), some (.ref t1), some (.ref d2), some (.int x3), some (.int x4)] [] Z I J o := by
  refine ex_step (pc' := 10) dX7_fewestCuts_8 rfl ?_
  refine ex_step (pc' := 13) (st' := [.int 128, .int x4]) dX7_fewestCuts_10 rfl ?_
  refine ex_icmp (pc' := 57) dX7_fewestCuts_13 (by decide) (fun c => ?_) (fun c => ?_)
  · have h := h.1 c
    refine ex_step (pc' := 58) dX7_fewestCuts_57 rfl ?_
    rw [h]; exact ex_ret (v := some (.int x3)) ⟨dX7_fewestCuts_58, _, rfl, rfl⟩
  · have h := h.2 c
    refine ex_step (pc' := 18) dX7_fewestCuts_16 rfl ?_
    refine ex_step (pc' := 19) dX7_fewestCuts_18 rfl ?_
    refine ex_geti dX7_fewestCuts_19 wf_RX7_33 (ly_a401 hL) rfl ?_
    refine ex_step (pc' := 23) (st' := [.int (-1), .int (I 401 3), .int x4]) dX7_fewestCuts_22 rfl ?_
    refine ex_step (pc' := 24) dX7_fewestCuts_23 rfl ?_
    refine ex_step (pc' := 25) dX7_fewestCuts_24 rfl ?_
    refine ex_if (pc' := 51) dX7_fewestCuts_25 (by decide) (fun c => ?_) (fun c => ?_)
    · have h := h.1 c
      refine ex_step (pc' := 54) (ls' := [some (.ref 401), some (.ref t1), some (.ref d2), some (.int x3), some (.int (x4 + 1))]) dX7_fewestCuts_51 rfl ?_
      refine ex_step (pc' := 8) dX7_fewestCuts_54 rfl ?_
      exact h
    · have h := h.2 (Classical.not_not.mp c)
      refine ex_step (pc' := 29) dX7_fewestCuts_28 rfl ?_
      refine ex_step (pc' := 31) dX7_fewestCuts_29 rfl ?_
      obtain ⟨v1, I2, hc, h⟩ := h
      refine ex_callV (as := [.int x4]) (st := []) (ci := 7) dX7_fewestCuts_31 zmX7_findOrder zl_RX7_68 ziX7_findOrder zvX7_findOrder (by decide) (ly_a401 hL) rfl (Nat.le_of_ble_eq_true rfl) (Nat.le_of_ble_eq_true rfl) hc ?_
      refine ex_if (pc' := 51) dX7_fewestCuts_34 (by decide) (fun c => ?_) (fun c => ?_)
      · have h := h.1 c
        refine ex_step (pc' := 54) (ls' := [some (.ref 401), some (.ref t1), some (.ref d2), some (.int x3), some (.int (x4 + 1))]) dX7_fewestCuts_51 rfl ?_
        refine ex_step (pc' := 8) dX7_fewestCuts_54 rfl ?_
        exact h
      · have h := h.2 c
        refine ex_step (pc' := 38) dX7_fewestCuts_37 rfl ?_
        refine ex_step (pc' := 39) dX7_fewestCuts_38 rfl ?_
        refine ex_step (pc' := 41) dX7_fewestCuts_39 rfl ?_
        refine ex_step (pc' := 42) dX7_fewestCuts_41 rfl ?_
        obtain ⟨v3, hc, h⟩ := h
        refine ex_callS (as := [.ref t1, .ref d2, .int x4, .int x3]) (st := []) dX7_fewestCuts_42 zmX7_isLess zl_RX7_72 zsX7_isLess rfl (Nat.le_of_ble_eq_true rfl) (Nat.le_of_ble_eq_true rfl) hc ?_
        refine ex_if (pc' := 51) dX7_fewestCuts_45 (by decide) (fun c => ?_) (fun c => ?_)
        · have h := h.1 c
          refine ex_step (pc' := 54) (ls' := [some (.ref 401), some (.ref t1), some (.ref d2), some (.int x3), some (.int (x4 + 1))]) dX7_fewestCuts_51 rfl ?_
          refine ex_step (pc' := 8) dX7_fewestCuts_54 rfl ?_
          exact h
        · have h := h.2 c
          refine ex_step (pc' := 50) dX7_fewestCuts_48 rfl ?_
          refine ex_step (pc' := 51) (ls' := [some (.ref 401), some (.ref t1), some (.ref d2), some (.int x4), some (.int x4)]) dX7_fewestCuts_50 rfl ?_
          refine ex_step (pc' := 54) (ls' := [some (.ref 401), some (.ref t1), some (.ref d2), some (.int x4), some (.int (x4 + 1))]) dX7_fewestCuts_51 rfl ?_
          refine ex_step (pc' := 8) dX7_fewestCuts_54 rfl ?_
          exact h
set_option maxHeartbeats 4000000 in
theorem BX7_isLess_0 {d : Nat} {Z : zZ} {I : zI} {J : zJ} {o : zO} {t0 : Nat} {d1 : Nat} (x2 : Int32) (x3 : Int32) (ht0 : zTx Z t0) (hd1 : zDy Z d1) (h : (∃ (v1 : Int32), zE (d + 1) kJ6_bitCount_0f7a4 0 [some (.int x2)] [] Z I J (some (.int v1), Z, I, J) ∧ (∃ (v2 : Int32), zE (d + 1) kJ6_bitCount_0f7a4 0 [some (.int x3)] [] Z I J (some (.int v2), Z, I, J) ∧ ((¬ (v1 - v2) = 0 → ((0 ≤ (v1 - v2) → o = (some (.int 0), Z, I, J)) ∧ (¬ 0 ≤ (v1 - v2) → o = (some (.int 1), Z, I, J)))) ∧ ((v1 - v2) = 0 → (∃ (v3 : Int32), zE (d + 1) kX0_countLying 0 [some (.ref d1), some (.ref t0), some (.int x2), none, none] [] Z I J (some (.int v3), Z, I, J) ∧ (∃ (v4 : Int32), zE (d + 1) kX0_countLying 0 [some (.ref d1), some (.ref t0), some (.int x3), none, none] [] Z I J (some (.int v4), Z, I, J) ∧ ((0 ≤ (v3 - v4) → o = (some (.int 0), Z, I, J)) ∧ (¬ 0 ≤ (v3 - v4) → o = (some (.int 1), Z, I, J)))))))))) : zE (d + 2) kX7_isLess 0 [some (.ref t0), some (.ref d1), some (.int x2), some (.int x3), none] [] Z I J o := by
  refine ex_step (pc' := 1) dX7_isLess_0 rfl ?_
  obtain ⟨v1, hc, h⟩ := h
  refine ex_callS (as := [.int x2]) (st := []) dX7_isLess_1 zmJ6_bitCount_0f7a4 zl_RX7_76 zsJ6_bitCount_0f7a4 rfl (Nat.le_of_ble_eq_true rfl) (Nat.le_of_ble_eq_true rfl) hc ?_
  refine ex_step (pc' := 5) dX7_isLess_4 rfl ?_
  obtain ⟨v2, hc, h⟩ := h
  refine ex_callS (as := [.int x3]) (st := [.int v1]) dX7_isLess_5 zmJ6_bitCount_0f7a4 zl_RX7_76 zsJ6_bitCount_0f7a4 rfl (Nat.le_of_ble_eq_true rfl) (Nat.le_of_ble_eq_true rfl) hc ?_
  refine ex_step (pc' := 9) dX7_isLess_8 rfl ?_
  refine ex_step (pc' := 11) (ls' := [some (.ref t0), some (.ref d1), some (.int x2), some (.int x3), some (.int (v1 - v2))]) dX7_isLess_9 rfl ?_
  refine ex_step (pc' := 13) dX7_isLess_11 rfl ?_
  refine ex_if (pc' := 31) dX7_isLess_13 (by decide) (fun c => ?_) (fun c => ?_)
  · have h := h.1 c
    refine ex_step (pc' := 33) dX7_isLess_31 rfl ?_
    refine ex_if (pc' := 40) dX7_isLess_33 (by decide) (fun c => ?_) (fun c => ?_)
    · have h := h.1 c
      refine ex_step (pc' := 41) (st' := [.int 0]) dX7_isLess_40 rfl ?_
      rw [h]; exact ex_ret (v := some (.int 0)) ⟨dX7_isLess_41, _, rfl, rfl⟩
    · have h := h.2 c
      refine ex_step (pc' := 37) (st' := [.int 1]) dX7_isLess_36 rfl ?_
      refine ex_step (pc' := 41) dX7_isLess_37 rfl ?_
      rw [h]; exact ex_ret (v := some (.int 1)) ⟨dX7_isLess_41, _, rfl, rfl⟩
  · have h := h.2 (Classical.not_not.mp c)
    refine ex_step (pc' := 17) dX7_isLess_16 rfl ?_
    refine ex_step (pc' := 18) dX7_isLess_17 rfl ?_
    refine ex_step (pc' := 19) dX7_isLess_18 rfl ?_
    obtain ⟨v3, hc, h⟩ := h
    refine ex_callV (as := [.ref t0, .int x2]) (st := []) (ci := 0) dX7_isLess_19 zmX0_countLying zl_RX7_81 ziX0_countLying zvX0_countLying (by decide) (zDy_o hd1) rfl (Nat.le_of_ble_eq_true rfl) (Nat.le_of_ble_eq_true rfl) hc ?_
    refine ex_step (pc' := 23) dX7_isLess_22 rfl ?_
    refine ex_step (pc' := 24) dX7_isLess_23 rfl ?_
    refine ex_step (pc' := 25) dX7_isLess_24 rfl ?_
    obtain ⟨v4, hc, h⟩ := h
    refine ex_callV (as := [.ref t0, .int x3]) (st := [.int v3]) (ci := 0) dX7_isLess_25 zmX0_countLying zl_RX7_81 ziX0_countLying zvX0_countLying (by decide) (zDy_o hd1) rfl (Nat.le_of_ble_eq_true rfl) (Nat.le_of_ble_eq_true rfl) hc ?_
    refine ex_step (pc' := 29) dX7_isLess_28 rfl ?_
    refine ex_step (pc' := 31) (ls' := [some (.ref t0), some (.ref d1), some (.int x2), some (.int x3), some (.int (v3 - v4))]) dX7_isLess_29 rfl ?_
    refine ex_step (pc' := 33) dX7_isLess_31 rfl ?_
    refine ex_if (pc' := 40) dX7_isLess_33 (by decide) (fun c => ?_) (fun c => ?_)
    · have h := h.1 c
      refine ex_step (pc' := 41) (st' := [.int 0]) dX7_isLess_40 rfl ?_
      rw [h]; exact ex_ret (v := some (.int 0)) ⟨dX7_isLess_41, _, rfl, rfl⟩
    · have h := h.2 c
      refine ex_step (pc' := 37) (st' := [.int 1]) dX7_isLess_36 rfl ?_
      refine ex_step (pc' := 41) dX7_isLess_37 rfl ?_
      rw [h]; exact ex_ret (v := some (.int 1)) ⟨dX7_isLess_41, _, rfl, rfl⟩
set_option maxHeartbeats 4000000 in
theorem BX7_widened_0 {d : Nat} {Z : zZ} {I : zI} {J : zJ} {o : zO} {t u : Nat} (x1 : Int32) (hL : zLY Z t u)  (h : zE (d + 1) kX7_widened 4 [some (.ref 401), some (.int x1), some (.int x1), some (.int 0)] [] Z I J o) : zE (d + 1) kX7_widened 0 [some (.ref 401), some (.int x1), none, none] [] Z I J o := by
  refine ex_step (pc' := 1) dX7_widened_0 rfl ?_
  refine ex_step (pc' := 2) (ls' := [some (.ref 401), some (.int x1), some (.int x1), none]) dX7_widened_1 rfl ?_
  refine ex_step (pc' := 3) (st' := [.int 0]) dX7_widened_2 rfl ?_
  refine ex_step (pc' := 4) (ls' := [some (.ref 401), some (.int x1), some (.int x1), some (.int 0)]) dX7_widened_3 rfl ?_
  exact h
set_option maxHeartbeats 4000000 in
theorem BX7_widened_4 {d : Nat} {Z : zZ} {I : zI} {J : zJ} {o : zO} {t u : Nat} (x1 : Int32) (x2 : Int32) (x3 : Int32) (hL : zLY Z t u)  (h : ((7 ≤ x3 → o = (some (.int x2), Z, I, J)) ∧ (¬ 7 ≤ x3 → ((((x1 >>> (x3 &&& 31)) &&& 1) = 0 → zE (d + 1) kX7_widened 4 [some (.ref 401), some (.int x1), some (.int x2), some (.int (x3 + 1))] [] Z I J o) ∧ (¬ ((x1 >>> (x3 &&& 31)) &&& 1) = 0 → (∀ y1 : Int32, y1 = (x2 ||| (zat I 403 7 x3)) → zE (d + 1) kX7_widened 4 [some (.ref 401), some (.int x1), some (.int y1), some (.int (x3 + 1))] [] Z I J o)))))) : zE (d + 1) kX7_widened 4 [some (.ref 401), some (.int x1), some (.int x2), some (.int x3)] [] Z I J o := by
  refine ex_step (pc' := 5) dX7_widened_4 rfl ?_
  refine ex_step (pc' := 7) (st' := [.int 7, .int x3]) dX7_widened_5 rfl ?_
  refine ex_icmp (pc' := 35) dX7_widened_7 (by decide) (fun c => ?_) (fun c => ?_)
  · have h := h.1 c
    refine ex_step (pc' := 36) dX7_widened_35 rfl ?_
    rw [h]; exact ex_ret (v := some (.int x2)) ⟨dX7_widened_36, _, rfl, rfl⟩
  · have h := h.2 c
    refine ex_step (pc' := 11) dX7_widened_10 rfl ?_
    refine ex_step (pc' := 12) dX7_widened_11 rfl ?_
    refine ex_step (pc' := 13) dX7_widened_12 rfl ?_
    refine ex_step (pc' := 14) (st' := [.int 1, .int (x1 >>> (x3 &&& 31))]) dX7_widened_13 rfl ?_
    refine ex_step (pc' := 15) dX7_widened_14 rfl ?_
    refine ex_if (pc' := 29) dX7_widened_15 (by decide) (fun c => ?_) (fun c => ?_)
    · have h := h.1 c
      refine ex_step (pc' := 32) (ls' := [some (.ref 401), some (.int x1), some (.int x2), some (.int (x3 + 1))]) dX7_widened_29 rfl ?_
      refine ex_step (pc' := 4) dX7_widened_32 rfl ?_
      exact h
    · have h := h.2 c
      refine ex_step (pc' := 19) dX7_widened_18 rfl ?_
      refine ex_step (pc' := 20) dX7_widened_19 rfl ?_
      refine ex_getr dX7_widened_20 wf_RX7_15 (ly_a401 hL) rfl (ly_r401_1 hL) ?_
      refine ex_step (pc' := 24) dX7_widened_23 rfl ?_
      refine ex_callS (as := [.ref 403, .int x3]) (st := [.int x2]) dX7_widened_24 zmX11_at zl_RX7_46 zsX11_at rfl (Nat.le_of_ble_eq_true rfl) (Nat.le_of_ble_eq_true rfl) (S_at' (by decide) (ly_a403 hL)) ?_
      refine ex_step (pc' := 28) dX7_widened_27 rfl ?_
      refine ex_topi (fun y1 ey1 => ?_)
      have h := h y1 ey1
      refine ex_step (pc' := 29) (ls' := [some (.ref 401), some (.int x1), some (.int y1), some (.int x3)]) dX7_widened_28 rfl ?_
      refine ex_step (pc' := 32) (ls' := [some (.ref 401), some (.int x1), some (.int y1), some (.int (x3 + 1))]) dX7_widened_29 rfl ?_
      refine ex_step (pc' := 4) dX7_widened_32 rfl ?_
      exact h
set_option maxHeartbeats 4000000 in
theorem BX7_countLinks_0 {d : Nat} {Z : zZ} {I : zI} {J : zJ} {o : zO} {t u : Nat} (x1 : Int32) (x2 : Int32) (hL : zLY Z t u)  (h : (∀ y1 : Int32, y1 = ((1 : Int32) <<< (x1 &&& 31)) → zE (d + 2) kX7_countLinks 7 [some (.ref 401), none, some (.int x2), some (.int y1), some (.int 1)] [] Z I J o)) : zE (d + 2) kX7_countLinks 0 [some (.ref 401), some (.int x1), some (.int x2), none, none] [] Z I J o := by
  refine ex_step (pc' := 1) (st' := [.int 1]) dX7_countLinks_0 rfl ?_
  refine ex_step (pc' := 2) dX7_countLinks_1 rfl ?_
  refine ex_step (pc' := 3) dX7_countLinks_2 rfl ?_
  refine ex_topi (fun y1 ey1 => ?_)
  have h := h y1 ey1
  refine ex_step (pc' := 4) (ls' := [some (.ref 401), some (.int x1), some (.int x2), some (.int y1), none]) dX7_countLinks_3 rfl ?_
  refine ex_step (pc' := 5) (st' := [.int 1]) dX7_countLinks_4 rfl ?_
  refine ex_step (pc' := 7) (ls' := [some (.ref 401), some (.int x1), some (.int x2), some (.int y1), some (.int 1)]) dX7_countLinks_5 rfl ?_
  exact ex_less (ls' := [some (.ref 401), none, some (.int x2), some (.int y1), some (.int 1)]) ⟨rfl, ⟨rfl, ⟨rfl, ⟨rfl, trivial⟩⟩⟩⟩ h
set_option maxHeartbeats 4000000 in
theorem BX7_countLinks_7 {d : Nat} {Z : zZ} {I : zI} {J : zJ} {o : zO} {t u : Nat} (x2 : Int32) (x3 : Int32) (x4 : Int32) (hL : zLY Z t u)  (h : ((7 ≤ x4 → o = (some (.int (-2)), Z, I, J)) ∧ (¬ 7 ≤ x4 → (∃ (v1 : Int32), zE (d + 1) kX7_widened 0 [some (.ref 401), some (.int x3), none, none] [] Z I J (some (.int v1), Z, I, J) ∧ ((((v1 >>> (x2 &&& 31)) &&& 1) = 0 → zE (d + 2) kX7_countLinks 7 [some (.ref 401), none, some (.int x2), some (.int v1), some (.int (x4 + 1))] [] Z I J o) ∧ (¬ ((v1 >>> (x2 &&& 31)) &&& 1) = 0 → o = (some (.int x4), Z, I, J))))))) : zE (d + 2) kX7_countLinks 7 [some (.ref 401), none, some (.int x2), some (.int x3), some (.int x4)] [] Z I J o := by
  refine ex_step (pc' := 9) dX7_countLinks_7 rfl ?_
  refine ex_step (pc' := 11) (st' := [.int 7, .int x4]) dX7_countLinks_9 rfl ?_
  refine ex_icmp (pc' := 37) dX7_countLinks_11 (by decide) (fun c => ?_) (fun c => ?_)
  · have h := h.1 c
    refine ex_step (pc' := 39) (st' := [.int (-2)]) dX7_countLinks_37 rfl ?_
    rw [h]; exact ex_ret (v := some (.int (-2))) ⟨dX7_countLinks_39, _, rfl, rfl⟩
  · have h := h.2 c
    refine ex_step (pc' := 15) dX7_countLinks_14 rfl ?_
    refine ex_step (pc' := 16) dX7_countLinks_15 rfl ?_
    obtain ⟨v1, hc, h⟩ := h
    refine ex_callV (as := [.int x3]) (st := []) (ci := 7) dX7_countLinks_16 zmX7_widened zl_RX7_85 ziX7_widened zvX7_widened (by decide) (ly_a401 hL) rfl (Nat.le_of_ble_eq_true rfl) (Nat.le_of_ble_eq_true rfl) hc ?_
    refine ex_step (pc' := 20) (ls' := [some (.ref 401), none, some (.int x2), some (.int v1), some (.int x4)]) dX7_countLinks_19 rfl ?_
    refine ex_step (pc' := 21) dX7_countLinks_20 rfl ?_
    refine ex_step (pc' := 22) dX7_countLinks_21 rfl ?_
    refine ex_step (pc' := 23) dX7_countLinks_22 rfl ?_
    refine ex_step (pc' := 24) (st' := [.int 1, .int (v1 >>> (x2 &&& 31))]) dX7_countLinks_23 rfl ?_
    refine ex_step (pc' := 25) dX7_countLinks_24 rfl ?_
    refine ex_if (pc' := 31) dX7_countLinks_25 (by decide) (fun c => ?_) (fun c => ?_)
    · have h := h.1 c
      refine ex_step (pc' := 34) (ls' := [some (.ref 401), none, some (.int x2), some (.int v1), some (.int (x4 + 1))]) dX7_countLinks_31 rfl ?_
      refine ex_step (pc' := 7) dX7_countLinks_34 rfl ?_
      exact h
    · have h := h.2 c
      refine ex_step (pc' := 30) dX7_countLinks_28 rfl ?_
      rw [h]; exact ex_ret (v := some (.int x4)) ⟨dX7_countLinks_30, _, rfl, rfl⟩
set_option maxHeartbeats 4000000 in
theorem BX7_countRounds_0 {d : Nat} {Z : zZ} {I : zI} {J : zJ} {o : zO} {t u : Nat}  (hL : zLY Z t u)  (h : zE (d + 2) kX7_countRounds 6 [some (.ref 401), some (.int 0), some (.int 0), some (.int 0), none] [] Z I J o) : zE (d + 2) kX7_countRounds 0 [some (.ref 401), none, none, none, none] [] Z I J o := by
  refine ex_step (pc' := 1) (st' := [.int 0]) dX7_countRounds_0 rfl ?_
  refine ex_step (pc' := 2) (ls' := [some (.ref 401), some (.int 0), none, none, none]) dX7_countRounds_1 rfl ?_
  refine ex_step (pc' := 3) (st' := [.int 0]) dX7_countRounds_2 rfl ?_
  refine ex_step (pc' := 4) (ls' := [some (.ref 401), some (.int 0), some (.int 0), none, none]) dX7_countRounds_3 rfl ?_
  refine ex_step (pc' := 5) (st' := [.int 0]) dX7_countRounds_4 rfl ?_
  refine ex_step (pc' := 6) (ls' := [some (.ref 401), some (.int 0), some (.int 0), some (.int 0), none]) dX7_countRounds_5 rfl ?_
  exact h
set_option maxHeartbeats 4000000 in
theorem BX7_countRounds_6 {d : Nat} {Z : zZ} {I : zI} {J : zJ} {o : zO} {t u : Nat} (x1 : Int32) (x2 : Int32) (x3 : Int32) (hL : zLY Z t u)  (h : ((7 ≤ x3 → o = (some (.int x1), Z, I, J)) ∧ (¬ 7 ≤ x3 → (((((I 401 3) &&& (x2 ^^^ (-1))) &&& ((1 : Int32) <<< (x3 &&& 31))) = 0 → zE (d + 2) kX7_countRounds 6 [some (.ref 401), some (.int x1), some (.int x2), some (.int (x3 + 1)), none] [] Z I J o) ∧ (¬ (((I 401 3) &&& (x2 ^^^ (-1))) &&& ((1 : Int32) <<< (x3 &&& 31))) = 0 → (∀ y1 : Int32, y1 = (x2 ||| ((1 : Int32) <<< (x3 &&& 31))) → zE (d + 2) kX7_countRounds 39 [some (.ref 401), some (.int (x1 + 1)), some (.int y1), some (.int x3), some (.int 0)] [] Z I J o)))))) : zE (d + 2) kX7_countRounds 6 [some (.ref 401), some (.int x1), some (.int x2), some (.int x3), none] [] Z I J o := by
  refine ex_step (pc' := 7) dX7_countRounds_6 rfl ?_
  refine ex_step (pc' := 9) (st' := [.int 7, .int x3]) dX7_countRounds_7 rfl ?_
  refine ex_icmp (pc' := 64) dX7_countRounds_9 (by decide) (fun c => ?_) (fun c => ?_)
  · have h := h.1 c
    refine ex_step (pc' := 65) dX7_countRounds_64 rfl ?_
    rw [h]; exact ex_ret (v := some (.int x1)) ⟨dX7_countRounds_65, _, rfl, rfl⟩
  · have h := h.2 c
    refine ex_step (pc' := 13) dX7_countRounds_12 rfl ?_
    refine ex_geti dX7_countRounds_13 wf_RX7_33 (ly_a401 hL) rfl ?_
    refine ex_step (pc' := 17) dX7_countRounds_16 rfl ?_
    refine ex_step (pc' := 18) (st' := [.int (-1), .int x2, .int (I 401 3)]) dX7_countRounds_17 rfl ?_
    refine ex_step (pc' := 19) dX7_countRounds_18 rfl ?_
    refine ex_step (pc' := 20) dX7_countRounds_19 rfl ?_
    refine ex_step (pc' := 21) (st' := [.int 1, .int ((I 401 3) &&& (x2 ^^^ (-1)))]) dX7_countRounds_20 rfl ?_
    refine ex_step (pc' := 22) dX7_countRounds_21 rfl ?_
    refine ex_step (pc' := 23) dX7_countRounds_22 rfl ?_
    refine ex_step (pc' := 24) dX7_countRounds_23 rfl ?_
    refine ex_if (pc' := 58) dX7_countRounds_24 (by decide) (fun c => ?_) (fun c => ?_)
    · have h := h.1 c
      refine ex_step (pc' := 61) (ls' := [some (.ref 401), some (.int x1), some (.int x2), some (.int (x3 + 1)), none]) dX7_countRounds_58 rfl ?_
      refine ex_step (pc' := 6) dX7_countRounds_61 rfl ?_
      exact h
    · have h := h.2 c
      refine ex_step (pc' := 30) (ls' := [some (.ref 401), some (.int (x1 + 1)), some (.int x2), some (.int x3), none]) dX7_countRounds_27 rfl ?_
      refine ex_step (pc' := 31) dX7_countRounds_30 rfl ?_
      refine ex_step (pc' := 32) (st' := [.int 1, .int x2]) dX7_countRounds_31 rfl ?_
      refine ex_step (pc' := 33) dX7_countRounds_32 rfl ?_
      refine ex_step (pc' := 34) dX7_countRounds_33 rfl ?_
      refine ex_step (pc' := 35) dX7_countRounds_34 rfl ?_
      refine ex_topi (fun y1 ey1 => ?_)
      have h := h y1 ey1
      refine ex_step (pc' := 36) (ls' := [some (.ref 401), some (.int (x1 + 1)), some (.int y1), some (.int x3), none]) dX7_countRounds_35 rfl ?_
      refine ex_step (pc' := 37) (st' := [.int 0]) dX7_countRounds_36 rfl ?_
      refine ex_step (pc' := 39) (ls' := [some (.ref 401), some (.int (x1 + 1)), some (.int y1), some (.int x3), some (.int 0)]) dX7_countRounds_37 rfl ?_
      exact h
set_option maxHeartbeats 4000000 in
theorem BX7_countRounds_39 {d : Nat} {Z : zZ} {I : zI} {J : zJ} {o : zO} {t u : Nat} (x1 : Int32) (x2 : Int32) (x3 : Int32) (x4 : Int32) (hL : zLY Z t u)  (h : ((7 ≤ x4 → zE (d + 2) kX7_countRounds 6 [some (.ref 401), some (.int x1), some (.int x2), some (.int (x3 + 1)), none] [] Z I J o) ∧ (¬ 7 ≤ x4 → (∃ (v1 : Int32), zE (d + 1) kX7_widened 0 [some (.ref 401), some (.int x2), none, none] [] Z I J (some (.int v1), Z, I, J) ∧ zE (d + 2) kX7_countRounds 39 [some (.ref 401), some (.int x1), some (.int v1), some (.int x3), some (.int (x4 + 1))] [] Z I J o)))) : zE (d + 2) kX7_countRounds 39 [some (.ref 401), some (.int x1), some (.int x2), some (.int x3), some (.int x4)] [] Z I J o := by
  refine ex_step (pc' := 41) dX7_countRounds_39 rfl ?_
  refine ex_step (pc' := 43) (st' := [.int 7, .int x4]) dX7_countRounds_41 rfl ?_
  refine ex_icmp (pc' := 58) dX7_countRounds_43 (by decide) (fun c => ?_) (fun c => ?_)
  · have h := h.1 c
    refine ex_step (pc' := 61) (ls' := [some (.ref 401), some (.int x1), some (.int x2), some (.int (x3 + 1)), some (.int x4)]) dX7_countRounds_58 rfl ?_
    refine ex_step (pc' := 6) dX7_countRounds_61 rfl ?_
    exact ex_less (ls' := [some (.ref 401), some (.int x1), some (.int x2), some (.int (x3 + 1)), none]) ⟨rfl, ⟨rfl, ⟨rfl, ⟨rfl, trivial⟩⟩⟩⟩ h
  · have h := h.2 c
    refine ex_step (pc' := 47) dX7_countRounds_46 rfl ?_
    refine ex_step (pc' := 48) dX7_countRounds_47 rfl ?_
    obtain ⟨v1, hc, h⟩ := h
    refine ex_callV (as := [.int x2]) (st := []) (ci := 7) dX7_countRounds_48 zmX7_widened zl_RX7_85 ziX7_widened zvX7_widened (by decide) (ly_a401 hL) rfl (Nat.le_of_ble_eq_true rfl) (Nat.le_of_ble_eq_true rfl) hc ?_
    refine ex_step (pc' := 52) (ls' := [some (.ref 401), some (.int x1), some (.int v1), some (.int x3), some (.int x4)]) dX7_countRounds_51 rfl ?_
    refine ex_step (pc' := 55) (ls' := [some (.ref 401), some (.int x1), some (.int v1), some (.int x3), some (.int (x4 + 1))]) dX7_countRounds_52 rfl ?_
    refine ex_step (pc' := 39) dX7_countRounds_55 rfl ?_
    exact h
set_option maxHeartbeats 4000000 in
theorem BX7_mostCrowded_0 {d : Nat} {Z : zZ} {I : zI} {J : zJ} {o : zO} {t u : Nat} {t1 : Nat} {d2 : Nat} (hL : zLY Z t u) (ht1 : zTx Z t1) (hd2 : zDy Z d2) (h : (∃ (I1 : zI), zE (d + 1) kJ7_fill_53178 0 [some (.ref 405), some (.int 0), none, none] [] Z I J (none, Z, I1, J) ∧ zE (d + 2) kX7_mostCrowded 10 [some (.ref 401), some (.ref t1), some (.ref d2), some (.int 0), none] [] Z I1 J o)) : zE (d + 2) kX7_mostCrowded 0 [some (.ref 401), some (.ref t1), some (.ref d2), none, none] [] Z I J o := by
  refine ex_step (pc' := 1) dX7_mostCrowded_0 rfl ?_
  refine ex_getr dX7_mostCrowded_1 wf_RX7_21 (ly_a401 hL) rfl (ly_r401_4 hL) ?_
  refine ex_step (pc' := 5) (st' := [.int 0, .ref 405]) dX7_mostCrowded_4 rfl ?_
  obtain ⟨I1, hc, h⟩ := h
  refine ex_callS (as := [.ref 405, .int 0]) (st := []) dX7_mostCrowded_5 zmJ7_fill_53178 zl_RX7_37 zsJ7_fill_53178 rfl (Nat.le_of_ble_eq_true rfl) (Nat.le_of_ble_eq_true rfl) hc ?_
  refine ex_step (pc' := 9) (st' := [.int 0]) dX7_mostCrowded_8 rfl ?_
  refine ex_step (pc' := 10) (ls' := [some (.ref 401), some (.ref t1), some (.ref d2), some (.int 0), none]) dX7_mostCrowded_9 rfl ?_
  exact h
set_option maxHeartbeats 4000000 in
theorem BX7_mostCrowded_10 {d : Nat} {Z : zZ} {I : zI} {J : zJ} {o : zO} {t u : Nat} {t1 : Nat} {d2 : Nat} (x3 : Int32) (hL : zLY Z t u) (ht1 : zTx Z t1) (hd2 : zDy Z d2) (h : (((I t1 2) ≤ x3 → zE (d + 2) kX7_mostCrowded 47 [some (.ref 401), none, none, some (.int 0), some (.int 1)] [] Z I J o) ∧ (¬ (I t1 2) ≤ x3 → (((zat I (d2 + 3) 7 x3) ≤ 0 → zE (d + 2) kX7_mostCrowded 10 [some (.ref 401), some (.ref t1), some (.ref d2), some (.int (x3 + 1)), none] [] Z I J o) ∧ (¬ (zat I (d2 + 3) 7 x3) ≤ 0 → (∃ (I1 : zI), zE (d + 1) kX7_visit 0 [some (.ref 401), some (.ref t1), some (.ref d2), some (.int x3), none, none, none] [] Z I J (none, Z, I1, J) ∧ zE (d + 2) kX7_mostCrowded 10 [some (.ref 401), some (.ref t1), some (.ref d2), some (.int (x3 + 1)), none] [] Z I1 J o)))))) : zE (d + 2) kX7_mostCrowded 10 [some (.ref 401), some (.ref t1), some (.ref d2), some (.int x3), none] [] Z I J o := by
  refine ex_step (pc' := 11) dX7_mostCrowded_10 rfl ?_
  refine ex_step (pc' := 12) dX7_mostCrowded_11 rfl ?_
  refine ex_geti dX7_mostCrowded_12 wf_RX7_88 (zTx_o ht1) rfl ?_
  refine ex_icmp (pc' := 42) dX7_mostCrowded_15 (by decide) (fun c => ?_) (fun c => ?_)
  · have h := h.1 c
    refine ex_step (pc' := 43) (st' := [.int 0]) dX7_mostCrowded_42 rfl ?_
    refine ex_step (pc' := 44) (ls' := [some (.ref 401), some (.ref t1), some (.ref d2), some (.int 0), none]) dX7_mostCrowded_43 rfl ?_
    refine ex_step (pc' := 45) (st' := [.int 1]) dX7_mostCrowded_44 rfl ?_
    refine ex_step (pc' := 47) (ls' := [some (.ref 401), some (.ref t1), some (.ref d2), some (.int 0), some (.int 1)]) dX7_mostCrowded_45 rfl ?_
    exact ex_less (ls' := [some (.ref 401), none, none, some (.int 0), some (.int 1)]) ⟨rfl, ⟨rfl, ⟨rfl, trivial⟩⟩⟩ h
  · have h := h.2 c
    refine ex_step (pc' := 19) dX7_mostCrowded_18 rfl ?_
    refine ex_getr dX7_mostCrowded_19 wf_RX7_93 (zDy_o hd2) rfl (zDy_r3 hd2) ?_
    refine ex_step (pc' := 23) dX7_mostCrowded_22 rfl ?_
    refine ex_callS (as := [.ref (d2 + 3), .int x3]) (st := []) dX7_mostCrowded_23 zmX11_at zl_RX7_46 zsX11_at rfl (Nat.le_of_ble_eq_true rfl) (Nat.le_of_ble_eq_true rfl) (S_at' (by decide) (zDy_a3 hd2)) ?_
    refine ex_if (pc' := 36) dX7_mostCrowded_26 (by decide) (fun c => ?_) (fun c => ?_)
    · have h := h.1 c
      refine ex_step (pc' := 39) (ls' := [some (.ref 401), some (.ref t1), some (.ref d2), some (.int (x3 + 1)), none]) dX7_mostCrowded_36 rfl ?_
      refine ex_step (pc' := 10) dX7_mostCrowded_39 rfl ?_
      exact h
    · have h := h.2 c
      refine ex_step (pc' := 30) dX7_mostCrowded_29 rfl ?_
      refine ex_step (pc' := 31) dX7_mostCrowded_30 rfl ?_
      refine ex_step (pc' := 32) dX7_mostCrowded_31 rfl ?_
      refine ex_step (pc' := 33) dX7_mostCrowded_32 rfl ?_
      obtain ⟨I1, hc, h⟩ := h
      refine ex_callV (as := [.ref t1, .ref d2, .int x3]) (st := []) (ci := 7) dX7_mostCrowded_33 zmX7_visit zl_RX7_96 ziX7_visit zvX7_visit (by decide) (ly_a401 hL) rfl (Nat.le_of_ble_eq_true rfl) (Nat.le_of_ble_eq_true rfl) hc ?_
      refine ex_step (pc' := 39) (ls' := [some (.ref 401), some (.ref t1), some (.ref d2), some (.int (x3 + 1)), none]) dX7_mostCrowded_36 rfl ?_
      refine ex_step (pc' := 10) dX7_mostCrowded_39 rfl ?_
      exact h
set_option maxHeartbeats 4000000 in
theorem BX7_mostCrowded_47 {d : Nat} {Z : zZ} {I : zI} {J : zJ} {o : zO} {t u : Nat} (x3 : Int32) (x4 : Int32) (hL : zLY Z t u)  (h : ((144 ≤ x4 → o = (some (.int x3), Z, I, J)) ∧ (¬ 144 ≤ x4 → (∃ (v1 : Int32), zE (d + 1) kJ6_bitCount_0f7a4 0 [some (.int (zat I 405 144 x4))] [] Z I J (some (.int v1), Z, I, J) ∧ (∃ (v2 : Int32), zE (d + 1) kJ6_bitCount_0f7a4 0 [some (.int (zat I 405 144 x3))] [] Z I J (some (.int v2), Z, I, J) ∧ ((v1 ≤ v2 → zE (d + 2) kX7_mostCrowded 47 [some (.ref 401), none, none, some (.int x3), some (.int (x4 + 1))] [] Z I J o) ∧ (¬ v1 ≤ v2 → zE (d + 2) kX7_mostCrowded 47 [some (.ref 401), none, none, some (.int x4), some (.int (x4 + 1))] [] Z I J o))))))) : zE (d + 2) kX7_mostCrowded 47 [some (.ref 401), none, none, some (.int x3), some (.int x4)] [] Z I J o := by
  refine ex_step (pc' := 49) dX7_mostCrowded_47 rfl ?_
  refine ex_step (pc' := 52) (st' := [.int 144, .int x4]) dX7_mostCrowded_49 rfl ?_
  refine ex_icmp (pc' := 90) dX7_mostCrowded_52 (by decide) (fun c => ?_) (fun c => ?_)
  · have h := h.1 c
    refine ex_step (pc' := 91) dX7_mostCrowded_90 rfl ?_
    rw [h]; exact ex_ret (v := some (.int x3)) ⟨dX7_mostCrowded_91, _, rfl, rfl⟩
  · have h := h.2 c
    refine ex_step (pc' := 56) dX7_mostCrowded_55 rfl ?_
    refine ex_getr dX7_mostCrowded_56 wf_RX7_21 (ly_a401 hL) rfl (ly_r401_4 hL) ?_
    refine ex_step (pc' := 61) dX7_mostCrowded_59 rfl ?_
    refine ex_callS (as := [.ref 405, .int x4]) (st := []) dX7_mostCrowded_61 zmX11_at zl_RX7_46 zsX11_at rfl (Nat.le_of_ble_eq_true rfl) (Nat.le_of_ble_eq_true rfl) (S_at' (by decide) (ly_a405 hL)) ?_
    obtain ⟨v1, hc, h⟩ := h
    refine ex_callS (as := [.int (zat I 405 144 x4)]) (st := []) dX7_mostCrowded_64 zmJ6_bitCount_0f7a4 zl_RX7_76 zsJ6_bitCount_0f7a4 rfl (Nat.le_of_ble_eq_true rfl) (Nat.le_of_ble_eq_true rfl) hc ?_
    refine ex_step (pc' := 68) dX7_mostCrowded_67 rfl ?_
    refine ex_getr dX7_mostCrowded_68 wf_RX7_21 (ly_a401 hL) rfl (ly_r401_4 hL) ?_
    refine ex_step (pc' := 72) dX7_mostCrowded_71 rfl ?_
    refine ex_callS (as := [.ref 405, .int x3]) (st := [.int v1]) dX7_mostCrowded_72 zmX11_at zl_RX7_46 zsX11_at rfl (Nat.le_of_ble_eq_true rfl) (Nat.le_of_ble_eq_true rfl) (S_at' (by decide) (ly_a405 hL)) ?_
    obtain ⟨v2, hc, h⟩ := h
    refine ex_callS (as := [.int (zat I 405 144 x3)]) (st := [.int v1]) dX7_mostCrowded_75 zmJ6_bitCount_0f7a4 zl_RX7_76 zsJ6_bitCount_0f7a4 rfl (Nat.le_of_ble_eq_true rfl) (Nat.le_of_ble_eq_true rfl) hc ?_
    refine ex_icmp (pc' := 84) dX7_mostCrowded_78 (by decide) (fun c => ?_) (fun c => ?_)
    · have h := h.1 c
      refine ex_step (pc' := 87) (ls' := [some (.ref 401), none, none, some (.int x3), some (.int (x4 + 1))]) dX7_mostCrowded_84 rfl ?_
      refine ex_step (pc' := 47) dX7_mostCrowded_87 rfl ?_
      exact h
    · have h := h.2 c
      refine ex_step (pc' := 83) dX7_mostCrowded_81 rfl ?_
      refine ex_step (pc' := 84) (ls' := [some (.ref 401), none, none, some (.int x4), some (.int x4)]) dX7_mostCrowded_83 rfl ?_
      refine ex_step (pc' := 87) (ls' := [some (.ref 401), none, none, some (.int x4), some (.int (x4 + 1))]) dX7_mostCrowded_84 rfl ?_
      refine ex_step (pc' := 47) dX7_mostCrowded_87 rfl ?_
      exact h
set_option maxHeartbeats 4000000 in
theorem BX7_visit_0 {d : Nat} {Z : zZ} {I : zI} {J : zJ} {o : zO} {t u : Nat} {t1 : Nat} {d2 : Nat} (x3 : Int32) (hL : zLY Z t u) (ht1 : zTx Z t1) (hd2 : zDy Z d2) (h : (∀ y1 : Int32, y1 = (((zat I (t1 + 7) 7 x3) * 12) + (zat I (t1 + 6) 7 x3)) → (∀ I2 : zI, I2 = zpt I 405 144 y1 ((zat I 405 144 y1) ||| ((1 : Int32) <<< (x3 &&& 31))) → zE (d + 1) kX7_visit 47 [some (.ref 401), none, some (.ref d2), some (.int x3), some (.int y1), some (.int 0), none] [] Z I2 J o))) : zE (d + 1) kX7_visit 0 [some (.ref 401), some (.ref t1), some (.ref d2), some (.int x3), none, none, none] [] Z I J o := by
  refine ex_step (pc' := 1) dX7_visit_0 rfl ?_
  refine ex_getr dX7_visit_1 wf_RX7_100 (zTx_o ht1) rfl (zTx_r8 ht1) ?_
  refine ex_step (pc' := 5) dX7_visit_4 rfl ?_
  refine ex_callS (as := [.ref (t1 + 7), .int x3]) (st := []) dX7_visit_5 zmX11_at zl_RX7_46 zsX11_at rfl (Nat.le_of_ble_eq_true rfl) (Nat.le_of_ble_eq_true rfl) (S_at' (by decide) (zTx_a7 ht1)) ?_
  refine ex_step (pc' := 10) (st' := [.int 12, .int (zat I (t1 + 7) 7 x3)]) dX7_visit_8 rfl ?_
  refine ex_step (pc' := 11) dX7_visit_10 rfl ?_
  refine ex_step (pc' := 12) dX7_visit_11 rfl ?_
  refine ex_getr dX7_visit_12 wf_RX7_103 (zTx_o ht1) rfl (zTx_r7 ht1) ?_
  refine ex_step (pc' := 16) dX7_visit_15 rfl ?_
  refine ex_callS (as := [.ref (t1 + 6), .int x3]) (st := [.int ((zat I (t1 + 7) 7 x3) * 12)]) dX7_visit_16 zmX11_at zl_RX7_46 zsX11_at rfl (Nat.le_of_ble_eq_true rfl) (Nat.le_of_ble_eq_true rfl) (S_at' (by decide) (zTx_a6 ht1)) ?_
  refine ex_step (pc' := 20) dX7_visit_19 rfl ?_
  refine ex_topi (fun y1 ey1 => ?_)
  have h := h y1 ey1
  refine ex_step (pc' := 22) (ls' := [some (.ref 401), some (.ref t1), some (.ref d2), some (.int x3), some (.int y1), none, none]) dX7_visit_20 rfl ?_
  refine ex_step (pc' := 23) dX7_visit_22 rfl ?_
  refine ex_getr dX7_visit_23 wf_RX7_21 (ly_a401 hL) rfl (ly_r401_4 hL) ?_
  refine ex_step (pc' := 28) dX7_visit_26 rfl ?_
  refine ex_step (pc' := 29) dX7_visit_28 rfl ?_
  refine ex_getr dX7_visit_29 wf_RX7_21 (ly_a401 hL) rfl (ly_r401_4 hL) ?_
  refine ex_step (pc' := 34) dX7_visit_32 rfl ?_
  refine ex_callS (as := [.ref 405, .int y1]) (st := [.int y1, .ref 405]) dX7_visit_34 zmX11_at zl_RX7_46 zsX11_at rfl (Nat.le_of_ble_eq_true rfl) (Nat.le_of_ble_eq_true rfl) (S_at' (by decide) (ly_a405 hL)) ?_
  refine ex_step (pc' := 38) (st' := [.int 1, .int (zat I 405 144 y1), .int y1, .ref 405]) dX7_visit_37 rfl ?_
  refine ex_step (pc' := 39) dX7_visit_38 rfl ?_
  refine ex_step (pc' := 40) dX7_visit_39 rfl ?_
  refine ex_step (pc' := 41) dX7_visit_40 rfl ?_
  obtain ⟨I2, eI2⟩ : ∃ q : zI, q = zpt I 405 144 y1 ((zat I 405 144 y1) ||| ((1 : Int32) <<< (x3 &&& 31))) := ⟨_, rfl⟩
  have h := h I2 eI2
  refine ex_callS (as := [.ref 405, .int y1, .int ((zat I 405 144 y1) ||| ((1 : Int32) <<< (x3 &&& 31)))]) (st := []) dX7_visit_41 zmX11_put zl_RX7_58 zsX11_put rfl (Nat.le_of_ble_eq_true rfl) (Nat.le_of_ble_eq_true rfl) (eI2 ▸ (S_put' (by decide) (ly_a405 hL))) ?_
  refine ex_step (pc' := 45) (st' := [.int 0]) dX7_visit_44 rfl ?_
  refine ex_step (pc' := 47) (ls' := [some (.ref 401), some (.ref t1), some (.ref d2), some (.int x3), some (.int y1), some (.int 0), none]) dX7_visit_45 rfl ?_
  exact ex_less (ls' := [some (.ref 401), none, some (.ref d2), some (.int x3), some (.int y1), some (.int 0), none]) ⟨rfl, ⟨rfl, ⟨rfl, ⟨rfl, ⟨rfl, trivial⟩⟩⟩⟩⟩ h
set_option maxHeartbeats 4000000 in
theorem BX7_visit_47 {d : Nat} {Z : zZ} {I : zI} {J : zJ} {o : zO} {t u : Nat} {d2 : Nat} (x3 : Int32) (x4 : Int32) (x5 : Int32) (hL : zLY Z t u) (hd2 : zDy Z d2) (h : (((zat I (d2 + 3) 7 x3) ≤ x5 → o = (none, Z, I, J)) ∧ (¬ (zat I (d2 + 3) 7 x3) ≤ x5 → (∀ y1 : Int32, y1 = (zat I (d2 + 5) 421 (zpc x3 x5)) → (∃ (v2 : Int32), zE d kX11_at 0 [some (.ref 1000002), some (.int y1)] [] Z I J (some (.int v2), Z, I, J) ∧ (∃ (v3 : Int32), zE d kX11_at 0 [some (.ref 1000001), some (.int y1)] [] Z I J (some (.int v3), Z, I, J) ∧ (∀ I4 : zI, I4 = zpt I 405 144 (x4 + ((v2 * 12) + v3)) ((zat I 405 144 (x4 + ((v2 * 12) + v3))) ||| ((1 : Int32) <<< (x3 &&& 31))) → zE (d + 1) kX7_visit 47 [some (.ref 401), none, some (.ref d2), some (.int x3), some (.int (x4 + ((v2 * 12) + v3))), some (.int (x5 + 1)), none] [] Z I4 J o))))))) : zE (d + 1) kX7_visit 47 [some (.ref 401), none, some (.ref d2), some (.int x3), some (.int x4), some (.int x5), none] [] Z I J o := by
  refine ex_step (pc' := 49) dX7_visit_47 rfl ?_
  refine ex_step (pc' := 50) dX7_visit_49 rfl ?_
  refine ex_getr dX7_visit_50 wf_RX7_93 (zDy_o hd2) rfl (zDy_r3 hd2) ?_
  refine ex_step (pc' := 54) dX7_visit_53 rfl ?_
  refine ex_callS (as := [.ref (d2 + 3), .int x3]) (st := [.int x5]) dX7_visit_54 zmX11_at zl_RX7_46 zsX11_at rfl (Nat.le_of_ble_eq_true rfl) (Nat.le_of_ble_eq_true rfl) (S_at' (by decide) (zDy_a3 hd2)) ?_
  refine ex_icmp (pc' := 128) dX7_visit_57 (by decide) (fun c => ?_) (fun c => ?_)
  · have h := h.1 c
    rw [h]; exact ex_ret (v := none) ⟨dX7_visit_128, rfl⟩
  · have h := h.2 c
    refine ex_step (pc' := 61) dX7_visit_60 rfl ?_
    refine ex_getr dX7_visit_61 wf_RX7_106 (zDy_o hd2) rfl (zDy_r5 hd2) ?_
    refine ex_step (pc' := 65) dX7_visit_64 rfl ?_
    refine ex_step (pc' := 67) dX7_visit_65 rfl ?_
    refine ex_callS (as := [.int x3, .int x5]) (st := [.ref (d2 + 5)]) dX7_visit_67 zmX11_pieceOf zl_RX7_109 zsX11_pieceOf rfl (Nat.le_of_ble_eq_true rfl) (Nat.le_of_ble_eq_true rfl) S_pieceOf ?_
    refine ex_callS (as := [.ref (d2 + 5), .int (zpc x3 x5)]) (st := []) dX7_visit_70 zmX11_at zl_RX7_46 zsX11_at rfl (Nat.le_of_ble_eq_true rfl) (Nat.le_of_ble_eq_true rfl) (S_at' (by decide) (zDy_a5 hd2)) ?_
    refine ex_topi (fun y1 ey1 => ?_)
    have h := h y1 ey1
    refine ex_step (pc' := 75) (ls' := [some (.ref 401), none, some (.ref d2), some (.int x3), some (.int x4), some (.int x5), some (.int y1)]) dX7_visit_73 rfl ?_
    refine ex_step (pc' := 77) dX7_visit_75 rfl ?_
    refine ex_gets dX7_visit_77 (Or.inr ⟨rfl, zg_RX7_113⟩) ?_
    refine ex_step (pc' := 82) dX7_visit_80 rfl ?_
    obtain ⟨v2, hc, h⟩ := h
    refine ex_callS (as := [.ref 1000002, .int y1]) (st := [.int x4]) dX7_visit_82 zmX11_at zl_RX7_46 zsX11_at rfl (Nat.le_of_ble_eq_true rfl) (Nat.le_of_ble_eq_true rfl) hc ?_
    refine ex_step (pc' := 87) (st' := [.int 12, .int v2, .int x4]) dX7_visit_85 rfl ?_
    refine ex_step (pc' := 88) dX7_visit_87 rfl ?_
    refine ex_gets dX7_visit_88 (Or.inl ⟨rfl, zg_RX7_116⟩) ?_
    refine ex_step (pc' := 93) dX7_visit_91 rfl ?_
    obtain ⟨v3, hc, h⟩ := h
    refine ex_callS (as := [.ref 1000001, .int y1]) (st := [.int (v2 * 12), .int x4]) dX7_visit_93 zmX11_at zl_RX7_46 zsX11_at rfl (Nat.le_of_ble_eq_true rfl) (Nat.le_of_ble_eq_true rfl) hc ?_
    refine ex_step (pc' := 97) dX7_visit_96 rfl ?_
    refine ex_step (pc' := 98) dX7_visit_97 rfl ?_
    refine ex_step (pc' := 100) (ls' := [some (.ref 401), none, some (.ref d2), some (.int x3), some (.int (x4 + ((v2 * 12) + v3))), some (.int x5), some (.int y1)]) dX7_visit_98 rfl ?_
    refine ex_step (pc' := 101) dX7_visit_100 rfl ?_
    refine ex_getr dX7_visit_101 wf_RX7_21 (ly_a401 hL) rfl (ly_r401_4 hL) ?_
    refine ex_step (pc' := 106) dX7_visit_104 rfl ?_
    refine ex_step (pc' := 107) dX7_visit_106 rfl ?_
    refine ex_getr dX7_visit_107 wf_RX7_21 (ly_a401 hL) rfl (ly_r401_4 hL) ?_
    refine ex_step (pc' := 112) dX7_visit_110 rfl ?_
    refine ex_callS (as := [.ref 405, .int (x4 + ((v2 * 12) + v3))]) (st := [.int (x4 + ((v2 * 12) + v3)), .ref 405]) dX7_visit_112 zmX11_at zl_RX7_46 zsX11_at rfl (Nat.le_of_ble_eq_true rfl) (Nat.le_of_ble_eq_true rfl) (S_at' (by decide) (ly_a405 hL)) ?_
    refine ex_step (pc' := 116) (st' := [.int 1, .int (zat I 405 144 (x4 + ((v2 * 12) + v3))), .int (x4 + ((v2 * 12) + v3)), .ref 405]) dX7_visit_115 rfl ?_
    refine ex_step (pc' := 117) dX7_visit_116 rfl ?_
    refine ex_step (pc' := 118) dX7_visit_117 rfl ?_
    refine ex_step (pc' := 119) dX7_visit_118 rfl ?_
    obtain ⟨I4, eI4⟩ : ∃ q : zI, q = zpt I 405 144 (x4 + ((v2 * 12) + v3)) ((zat I 405 144 (x4 + ((v2 * 12) + v3))) ||| ((1 : Int32) <<< (x3 &&& 31))) := ⟨_, rfl⟩
    have h := h I4 eI4
    refine ex_callS (as := [.ref 405, .int (x4 + ((v2 * 12) + v3)), .int ((zat I 405 144 (x4 + ((v2 * 12) + v3))) ||| ((1 : Int32) <<< (x3 &&& 31)))]) (st := []) dX7_visit_119 zmX11_put zl_RX7_58 zsX11_put rfl (Nat.le_of_ble_eq_true rfl) (Nat.le_of_ble_eq_true rfl) (eI4 ▸ (S_put' (by decide) (ly_a405 hL))) ?_
    refine ex_step (pc' := 125) (ls' := [some (.ref 401), none, some (.ref d2), some (.int x3), some (.int (x4 + ((v2 * 12) + v3))), some (.int (x5 + 1)), some (.int y1)]) dX7_visit_122 rfl ?_
    refine ex_step (pc' := 47) dX7_visit_125 rfl ?_
    exact ex_less (ls' := [some (.ref 401), none, some (.ref d2), some (.int x3), some (.int (x4 + ((v2 * 12) + v3))), some (.int (x5 + 1)), none]) ⟨rfl, ⟨rfl, ⟨rfl, ⟨rfl, ⟨rfl, trivial⟩⟩⟩⟩⟩ h
set_option maxHeartbeats 4000000 in
theorem BX8_nameAt_0 {d : Nat} {Z : zZ} {I : zI} {J : zJ} {o : zO} {t u : Nat} (x1 : Int32) (hL : zLY Z t u)  (h : ((x1 < 0 → o = (some (.long 0), Z, I, J)) ∧ (¬ x1 < 0 → (((Int32.ofNat 402) ≤ x1 → o = (some (.long 0), Z, I, J)) ∧ (¬ (Int32.ofNat 402) ≤ x1 → (vp_in x1 402 ∧ o = (some (.long (J 24 x1.toNatClampNeg)), Z, I, J))))))) : zE d kX8_nameAt 0 [some (.ref 20), some (.int x1)] [] Z I J o := by
  refine ex_step (pc' := 1) dX8_nameAt_0 rfl ?_
  refine ex_if (pc' := 22) dX8_nameAt_1 (by decide) (fun c => ?_) (fun c => ?_)
  · have h := h.1 c
    refine ex_step (pc' := 23) (st' := [.long 0]) dX8_nameAt_22 rfl ?_
    rw [h]; exact ex_ret (v := some (.long 0)) ⟨dX8_nameAt_23, rfl⟩
  · have h := h.2 c
    refine ex_step (pc' := 5) dX8_nameAt_4 rfl ?_
    refine ex_step (pc' := 6) dX8_nameAt_5 rfl ?_
    refine ex_getr dX8_nameAt_6 wf_RX8_21 (ly_a20 hL) rfl (ly_r20_3 hL) ?_
    refine ex_alen dX8_nameAt_9 (Or.inl ⟨(ly_a24 hL), by decide, by decide⟩) ?_
    refine ex_icmp (pc' := 22) dX8_nameAt_10 (by decide) (fun c => ?_) (fun c => ?_)
    · have h := h.1 c
      refine ex_step (pc' := 23) (st' := [.long 0]) dX8_nameAt_22 rfl ?_
      rw [h]; exact ex_ret (v := some (.long 0)) ⟨dX8_nameAt_23, rfl⟩
    · have h := h.2 c
      refine ex_step (pc' := 14) dX8_nameAt_13 rfl ?_
      refine ex_getr dX8_nameAt_14 wf_RX8_21 (ly_a20 hL) rfl (ly_r20_3 hL) ?_
      refine ex_step (pc' := 18) dX8_nameAt_17 rfl ?_
      obtain ⟨hv, h⟩ := h
      refine ex_lald dX8_nameAt_18 (ly_a24 hL) hv ?_
      refine ex_step (pc' := 23) dX8_nameAt_19 rfl ?_
      rw [h]; exact ex_ret (v := some (.long (J 24 x1.toNatClampNeg))) ⟨dX8_nameAt_23, rfl⟩
set_option maxHeartbeats 4000000 in
theorem BX8_split_0 {d : Nat} {Z : zZ} {I : zI} {J : zJ} {o : zO} {t u : Nat} (x2 : Int32) (hL : zLY Z t u)  (h : (∀ I1 : zI, I1 = zu I 20 5 0 → zE (d + 7) kX8_split 13 [some (.ref 20), some (.ref 1), some (.int x2), some (.int 0), some (.int 2), some (.int 0), none] [] Z I1 J o)) : zE (d + 7) kX8_split 0 [some (.ref 20), some (.ref 1), some (.int x2), none, none, none, none] [] Z I J o := by
  refine ex_step (pc' := 1) dX8_split_0 rfl ?_
  refine ex_step (pc' := 2) (st' := [.int 0, .ref 20]) dX8_split_1 rfl ?_
  refine ex_putiN dX8_split_2 (wp_RX8_42 _) (ly_a20 hL) rfl ⟨rfl, rfl⟩ (fun I1 eI1 => ?_)
  have h := h I1 eI1
  refine ex_step (pc' := 6) (st' := [.int 0]) dX8_split_5 rfl ?_
  refine ex_step (pc' := 7) (ls' := [some (.ref 20), some (.ref 1), some (.int x2), some (.int 0), none, none, none]) dX8_split_6 rfl ?_
  refine ex_step (pc' := 8) (st' := [.int 2]) dX8_split_7 rfl ?_
  refine ex_step (pc' := 10) (ls' := [some (.ref 20), some (.ref 1), some (.int x2), some (.int 0), some (.int 2), none, none]) dX8_split_8 rfl ?_
  refine ex_step (pc' := 11) (st' := [.int 0]) dX8_split_10 rfl ?_
  refine ex_step (pc' := 13) (ls' := [some (.ref 20), some (.ref 1), some (.int x2), some (.int 0), some (.int 2), some (.int 0), none]) dX8_split_11 rfl ?_
  exact h
set_option maxHeartbeats 4000000 in
theorem BX8_split_13 {d : Nat} {Z : zZ} {I : zI} {J : zJ} {o : zO} {t u : Nat} (x2 : Int32) (x3 : Int32) (x4 : Int32) (x5 : Int32) (hL : zLY Z t u)  (h : ((401 < x5 → o = (none, Z, I, J)) ∧ (¬ 401 < x5 → ((x4 ≤ 1 → o = (none, Z, I, J)) ∧ (¬ x4 ≤ 1 → (∃ (v1 : Int32), zE (d + 6) kX8_afterBlanks 0 [some (.ref 1), some (.int x3), some (.int x2), none] [] Z I J (some (.int v1), Z, I, J) ∧ (∃ (v2 : Int32), zE (d + 6) kX8_tokenEnd 0 [some (.ref 1), some (.int v1), some (.int x2), none] [] Z I J (some (.int v2), Z, I, J) ∧ (∃ (v3 : Int32) (I4 : zI) (J5 : zJ), zE (d + 6) kX8_kindOf 0 [some (.ref 20), some (.ref 1), some (.int v1), some (.int v2), none, none, none] [] Z I J (some (.int v3), Z, I4, J5) ∧ (∀ I6 : zI, I6 = zpt I4 21 402 (I4 20 5) v3 → (∀ I7 : zI, I7 = zpt I6 22 402 (I6 20 5) v1 → (∀ I8 : zI, I8 = zu I7 20 5 ((I7 20 5) + 1) → zE (d + 7) kX8_split 13 [some (.ref 20), some (.ref 1), some (.int x2), some (.int v2), some (.int v3), some (.int (x5 + 1)), none] [] Z I8 J5 o))))))))))) : zE (d + 7) kX8_split 13 [some (.ref 20), some (.ref 1), some (.int x2), some (.int x3), some (.int x4), some (.int x5), none] [] Z I J o := by
  refine ex_step (pc' := 15) dX8_split_13 rfl ?_
  refine ex_step (pc' := 18) (st' := [.int 401, .int x5]) dX8_split_15 rfl ?_
  refine ex_icmp (pc' := 96) dX8_split_18 (by decide) (fun c => ?_) (fun c => ?_)
  · have h := h.1 c
    rw [h]; exact ex_ret (v := none) ⟨dX8_split_96, rfl⟩
  · have h := h.2 c
    refine ex_step (pc' := 23) dX8_split_21 rfl ?_
    refine ex_step (pc' := 24) (st' := [.int 1, .int x4]) dX8_split_23 rfl ?_
    refine ex_icmp (pc' := 96) dX8_split_24 (by decide) (fun c => ?_) (fun c => ?_)
    · have h := h.1 c
      rw [h]; exact ex_ret (v := none) ⟨dX8_split_96, rfl⟩
    · have h := h.2 c
      refine ex_step (pc' := 28) dX8_split_27 rfl ?_
      refine ex_step (pc' := 29) dX8_split_28 rfl ?_
      refine ex_step (pc' := 30) dX8_split_29 rfl ?_
      obtain ⟨v1, hc, h⟩ := h
      refine ex_callS (as := [.ref 1, .int x3, .int x2]) (st := []) dX8_split_30 zmX8_afterBlanks zl_RX8_46 zsX8_afterBlanks rfl (Nat.le_of_ble_eq_true rfl) (Nat.le_of_ble_eq_true rfl) hc ?_
      refine ex_step (pc' := 34) (ls' := [some (.ref 20), some (.ref 1), some (.int x2), some (.int v1), some (.int x4), some (.int x5), none]) dX8_split_33 rfl ?_
      refine ex_step (pc' := 35) dX8_split_34 rfl ?_
      refine ex_step (pc' := 36) dX8_split_35 rfl ?_
      refine ex_step (pc' := 37) dX8_split_36 rfl ?_
      obtain ⟨v2, hc, h⟩ := h
      refine ex_callS (as := [.ref 1, .int v1, .int x2]) (st := []) dX8_split_37 zmX8_tokenEnd zl_RX8_50 zsX8_tokenEnd rfl (Nat.le_of_ble_eq_true rfl) (Nat.le_of_ble_eq_true rfl) hc ?_
      refine ex_step (pc' := 42) (ls' := [some (.ref 20), some (.ref 1), some (.int x2), some (.int v1), some (.int x4), some (.int x5), some (.int v2)]) dX8_split_40 rfl ?_
      refine ex_step (pc' := 43) dX8_split_42 rfl ?_
      refine ex_step (pc' := 44) dX8_split_43 rfl ?_
      refine ex_step (pc' := 45) dX8_split_44 rfl ?_
      refine ex_step (pc' := 47) dX8_split_45 rfl ?_
      obtain ⟨v3, I4, J5, hc, h⟩ := h
      refine ex_callV (as := [.ref 1, .int v1, .int v2]) (st := []) (ci := 8) dX8_split_47 zmX8_kindOf zl_RX8_53 ziX8_kindOf zvX8_kindOf (by decide) (ly_a20 hL) rfl (Nat.le_of_ble_eq_true rfl) (Nat.le_of_ble_eq_true rfl) hc ?_
      refine ex_step (pc' := 52) (ls' := [some (.ref 20), some (.ref 1), some (.int x2), some (.int v1), some (.int v3), some (.int x5), some (.int v2)]) dX8_split_50 rfl ?_
      refine ex_step (pc' := 53) dX8_split_52 rfl ?_
      refine ex_getr dX8_split_53 wf_RX8_9 (ly_a20 hL) rfl (ly_r20_0 hL) ?_
      refine ex_step (pc' := 57) dX8_split_56 rfl ?_
      refine ex_geti dX8_split_57 wf_RX8_42 (ly_a20 hL) rfl ?_
      refine ex_step (pc' := 62) dX8_split_60 rfl ?_
      obtain ⟨I6, eI6⟩ : ∃ q : zI, q = zpt I4 21 402 (I4 20 5) v3 := ⟨_, rfl⟩
      have h := h I6 eI6
      refine ex_callS (as := [.ref 21, .int (I4 20 5), .int v3]) (st := []) dX8_split_62 zmX11_put zl_RX8_56 zsX11_put rfl (Nat.le_of_ble_eq_true rfl) (Nat.le_of_ble_eq_true rfl) (eI6 ▸ (S_put' (by decide) (ly_a21 hL))) ?_
      refine ex_step (pc' := 66) dX8_split_65 rfl ?_
      refine ex_getr dX8_split_66 wf_RX8_15 (ly_a20 hL) rfl (ly_r20_1 hL) ?_
      refine ex_step (pc' := 70) dX8_split_69 rfl ?_
      refine ex_geti dX8_split_70 wf_RX8_42 (ly_a20 hL) rfl ?_
      refine ex_step (pc' := 74) dX8_split_73 rfl ?_
      obtain ⟨I7, eI7⟩ : ∃ q : zI, q = zpt I6 22 402 (I6 20 5) v1 := ⟨_, rfl⟩
      have h := h I7 eI7
      refine ex_callS (as := [.ref 22, .int (I6 20 5), .int v1]) (st := []) dX8_split_74 zmX11_put zl_RX8_56 zsX11_put rfl (Nat.le_of_ble_eq_true rfl) (Nat.le_of_ble_eq_true rfl) (eI7 ▸ (S_put' (by decide) (ly_a22 hL))) ?_
      refine ex_step (pc' := 78) dX8_split_77 rfl ?_
      refine ex_step (pc' := 79) dX8_split_78 rfl ?_
      refine ex_geti dX8_split_79 wf_RX8_42 (ly_a20 hL) rfl ?_
      refine ex_step (pc' := 83) (st' := [.int 1, .int (I7 20 5), .ref 20]) dX8_split_82 rfl ?_
      refine ex_step (pc' := 84) dX8_split_83 rfl ?_
      refine ex_putiN dX8_split_84 (wp_RX8_42 _) (ly_a20 hL) rfl ⟨rfl, rfl⟩ (fun I8 eI8 => ?_)
      have h := h I8 eI8
      refine ex_step (pc' := 89) dX8_split_87 rfl ?_
      refine ex_step (pc' := 90) (ls' := [some (.ref 20), some (.ref 1), some (.int x2), some (.int v2), some (.int v3), some (.int x5), some (.int v2)]) dX8_split_89 rfl ?_
      refine ex_step (pc' := 93) (ls' := [some (.ref 20), some (.ref 1), some (.int x2), some (.int v2), some (.int v3), some (.int (x5 + 1)), some (.int v2)]) dX8_split_90 rfl ?_
      refine ex_step (pc' := 13) dX8_split_93 rfl ?_
      exact ex_less (ls' := [some (.ref 20), some (.ref 1), some (.int x2), some (.int v2), some (.int v3), some (.int (x5 + 1)), none]) ⟨rfl, ⟨rfl, ⟨rfl, ⟨rfl, ⟨rfl, ⟨rfl, trivial⟩⟩⟩⟩⟩⟩ h
set_option maxHeartbeats 4000000 in
theorem BX8_afterBlanks_0 {d : Nat} {Z : zZ} {I : zI} {J : zJ} {o : zO} {t u : Nat} (x1 : Int32) (x2 : Int32) (hL : zLY Z t u)  (h : zE (d + 1) kX8_afterBlanks 2 [some (.ref 1), none, some (.int x2), some (.int x1)] [] Z I J o) : zE (d + 1) kX8_afterBlanks 0 [some (.ref 1), some (.int x1), some (.int x2), none] [] Z I J o := by
  refine ex_step (pc' := 1) dX8_afterBlanks_0 rfl ?_
  refine ex_step (pc' := 2) (ls' := [some (.ref 1), some (.int x1), some (.int x2), some (.int x1)]) dX8_afterBlanks_1 rfl ?_
  exact ex_less (ls' := [some (.ref 1), none, some (.int x2), some (.int x1)]) ⟨rfl, ⟨rfl, ⟨rfl, trivial⟩⟩⟩ h
set_option maxHeartbeats 4000000 in
theorem BX8_afterBlanks_2 {d : Nat} {Z : zZ} {I : zI} {J : zJ} {o : zO} {t u : Nat} (x2 : Int32) (x3 : Int32) (hL : zLY Z t u)  (h : ((x2 ≤ x3 → o = (some (.int x3), Z, I, J)) ∧ (¬ x2 ≤ x3 → (((zbi ((zat I 1 2000 x3) = 9 ∨ (zat I 1 2000 x3) = 10 ∨ (zat I 1 2000 x3) = 13 ∨ (zat I 1 2000 x3) = 32)) = 0 → o = (some (.int x3), Z, I, J)) ∧ (¬ (zbi ((zat I 1 2000 x3) = 9 ∨ (zat I 1 2000 x3) = 10 ∨ (zat I 1 2000 x3) = 13 ∨ (zat I 1 2000 x3) = 32)) = 0 → zE (d + 1) kX8_afterBlanks 2 [some (.ref 1), none, some (.int x2), some (.int (x3 + 1))] [] Z I J o))))) : zE (d + 1) kX8_afterBlanks 2 [some (.ref 1), none, some (.int x2), some (.int x3)] [] Z I J o := by
  refine ex_step (pc' := 3) dX8_afterBlanks_2 rfl ?_
  refine ex_step (pc' := 4) dX8_afterBlanks_3 rfl ?_
  refine ex_icmp (pc' := 24) dX8_afterBlanks_4 (by decide) (fun c => ?_) (fun c => ?_)
  · have h := h.1 c
    refine ex_step (pc' := 25) dX8_afterBlanks_24 rfl ?_
    rw [h]; exact ex_ret (v := some (.int x3)) ⟨dX8_afterBlanks_25, _, rfl, rfl⟩
  · have h := h.2 c
    refine ex_step (pc' := 8) dX8_afterBlanks_7 rfl ?_
    refine ex_step (pc' := 9) dX8_afterBlanks_8 rfl ?_
    refine ex_callS (as := [.ref 1, .int x3]) (st := []) dX8_afterBlanks_9 zmX11_at zl_RX8_60 zsX11_at rfl (Nat.le_of_ble_eq_true rfl) (Nat.le_of_ble_eq_true rfl) (S_at' (by decide) (ly_a1 hL)) ?_
    refine ex_callS (as := [.int (zat I 1 2000 x3)]) (st := []) dX8_afterBlanks_12 zmX8_isBlank zl_RX8_64 zsX8_isBlank rfl (Nat.le_of_ble_eq_true rfl) (Nat.le_of_ble_eq_true rfl) S_isBlank ?_
    refine ex_if (pc' := 24) dX8_afterBlanks_15 (by decide) (fun c => ?_) (fun c => ?_)
    · have h := h.1 c
      refine ex_step (pc' := 25) dX8_afterBlanks_24 rfl ?_
      rw [h]; exact ex_ret (v := some (.int x3)) ⟨dX8_afterBlanks_25, _, rfl, rfl⟩
    · have h := h.2 c
      refine ex_step (pc' := 21) (ls' := [some (.ref 1), none, some (.int x2), some (.int (x3 + 1))]) dX8_afterBlanks_18 rfl ?_
      refine ex_step (pc' := 2) dX8_afterBlanks_21 rfl ?_
      exact h
set_option maxHeartbeats 4000000 in
theorem BX8_tokenEnd_0 {d : Nat} {Z : zZ} {I : zI} {J : zJ} {o : zO} {t u : Nat} (x1 : Int32) (x2 : Int32) (hL : zLY Z t u)  (h : ((x2 ≤ x1 → ((x2 ≤ x1 → ((x2 ≤ x1 → o = (some (.int x1), Z, I, J)) ∧ (¬ x2 ≤ x1 → o = (some (.int (x1 + 1)), Z, I, J)))) ∧ (¬ x2 ≤ x1 → (((zbi (48 ≤ (zat I 1 2000 x1) ∧ (zat I 1 2000 x1) ≤ 57)) = 0 → ((x2 ≤ x1 → o = (some (.int x1), Z, I, J)) ∧ (¬ x2 ≤ x1 → o = (some (.int (x1 + 1)), Z, I, J)))) ∧ (¬ (zbi (48 ≤ (zat I 1 2000 x1) ∧ (zat I 1 2000 x1) ≤ 57)) = 0 → zE (d + 1) kX8_tokenEnd 58 [some (.ref 1), none, some (.int x2), some (.int x1)] [] Z I J o))))) ∧ (¬ x2 ≤ x1 → (((zbi (97 ≤ (zat I 1 2000 x1) ∧ (zat I 1 2000 x1) ≤ 122)) = 0 → ((x2 ≤ x1 → ((x2 ≤ x1 → o = (some (.int x1), Z, I, J)) ∧ (¬ x2 ≤ x1 → o = (some (.int (x1 + 1)), Z, I, J)))) ∧ (¬ x2 ≤ x1 → (((zbi (48 ≤ (zat I 1 2000 x1) ∧ (zat I 1 2000 x1) ≤ 57)) = 0 → ((x2 ≤ x1 → o = (some (.int x1), Z, I, J)) ∧ (¬ x2 ≤ x1 → o = (some (.int (x1 + 1)), Z, I, J)))) ∧ (¬ (zbi (48 ≤ (zat I 1 2000 x1) ∧ (zat I 1 2000 x1) ≤ 57)) = 0 → zE (d + 1) kX8_tokenEnd 58 [some (.ref 1), none, some (.int x2), some (.int x1)] [] Z I J o))))) ∧ (¬ (zbi (97 ≤ (zat I 1 2000 x1) ∧ (zat I 1 2000 x1) ≤ 122)) = 0 → zE (d + 1) kX8_tokenEnd 18 [some (.ref 1), none, some (.int x2), some (.int x1)] [] Z I J o))))) : zE (d + 1) kX8_tokenEnd 0 [some (.ref 1), some (.int x1), some (.int x2), none] [] Z I J o := by
  refine ex_step (pc' := 1) dX8_tokenEnd_0 rfl ?_
  refine ex_step (pc' := 2) (ls' := [some (.ref 1), some (.int x1), some (.int x2), some (.int x1)]) dX8_tokenEnd_1 rfl ?_
  refine ex_step (pc' := 3) dX8_tokenEnd_2 rfl ?_
  refine ex_step (pc' := 4) dX8_tokenEnd_3 rfl ?_
  refine ex_icmp (pc' := 42) dX8_tokenEnd_4 (by decide) (fun c => ?_) (fun c => ?_)
  · have h := h.1 c
    refine ex_step (pc' := 43) dX8_tokenEnd_42 rfl ?_
    refine ex_step (pc' := 44) dX8_tokenEnd_43 rfl ?_
    refine ex_icmp (pc' := 82) dX8_tokenEnd_44 (by decide) (fun c => ?_) (fun c => ?_)
    · have h := h.1 c
      refine ex_step (pc' := 83) dX8_tokenEnd_82 rfl ?_
      refine ex_step (pc' := 84) dX8_tokenEnd_83 rfl ?_
      refine ex_icmp (pc' := 93) dX8_tokenEnd_84 (by decide) (fun c => ?_) (fun c => ?_)
      · have h := h.1 c
        refine ex_step (pc' := 94) dX8_tokenEnd_93 rfl ?_
        rw [h]; exact ex_ret (v := some (.int x1)) ⟨dX8_tokenEnd_94, _, rfl, rfl⟩
      · have h := h.2 c
        refine ex_step (pc' := 88) dX8_tokenEnd_87 rfl ?_
        refine ex_step (pc' := 89) (st' := [.int 1, .int x1]) dX8_tokenEnd_88 rfl ?_
        refine ex_step (pc' := 90) dX8_tokenEnd_89 rfl ?_
        refine ex_step (pc' := 94) dX8_tokenEnd_90 rfl ?_
        rw [h]; exact ex_ret (v := some (.int (x1 + 1))) ⟨dX8_tokenEnd_94, _, rfl, rfl⟩
    · have h := h.2 c
      refine ex_step (pc' := 48) dX8_tokenEnd_47 rfl ?_
      refine ex_step (pc' := 49) dX8_tokenEnd_48 rfl ?_
      refine ex_callS (as := [.ref 1, .int x1]) (st := []) dX8_tokenEnd_49 zmX11_at zl_RX8_60 zsX11_at rfl (Nat.le_of_ble_eq_true rfl) (Nat.le_of_ble_eq_true rfl) (S_at' (by decide) (ly_a1 hL)) ?_
      refine ex_callS (as := [.int (zat I 1 2000 x1)]) (st := []) dX8_tokenEnd_52 zmX8_isDigit zl_RX8_71 zsX8_isDigit rfl (Nat.le_of_ble_eq_true rfl) (Nat.le_of_ble_eq_true rfl) S_isDigit ?_
      refine ex_if (pc' := 82) dX8_tokenEnd_55 (by decide) (fun c => ?_) (fun c => ?_)
      · have h := h.1 c
        refine ex_step (pc' := 83) dX8_tokenEnd_82 rfl ?_
        refine ex_step (pc' := 84) dX8_tokenEnd_83 rfl ?_
        refine ex_icmp (pc' := 93) dX8_tokenEnd_84 (by decide) (fun c => ?_) (fun c => ?_)
        · have h := h.1 c
          refine ex_step (pc' := 94) dX8_tokenEnd_93 rfl ?_
          rw [h]; exact ex_ret (v := some (.int x1)) ⟨dX8_tokenEnd_94, _, rfl, rfl⟩
        · have h := h.2 c
          refine ex_step (pc' := 88) dX8_tokenEnd_87 rfl ?_
          refine ex_step (pc' := 89) (st' := [.int 1, .int x1]) dX8_tokenEnd_88 rfl ?_
          refine ex_step (pc' := 90) dX8_tokenEnd_89 rfl ?_
          refine ex_step (pc' := 94) dX8_tokenEnd_90 rfl ?_
          rw [h]; exact ex_ret (v := some (.int (x1 + 1))) ⟨dX8_tokenEnd_94, _, rfl, rfl⟩
      · have h := h.2 c
        exact ex_less (ls' := [some (.ref 1), none, some (.int x2), some (.int x1)]) ⟨rfl, ⟨rfl, ⟨rfl, trivial⟩⟩⟩ h
  · have h := h.2 c
    refine ex_step (pc' := 8) dX8_tokenEnd_7 rfl ?_
    refine ex_step (pc' := 9) dX8_tokenEnd_8 rfl ?_
    refine ex_callS (as := [.ref 1, .int x1]) (st := []) dX8_tokenEnd_9 zmX11_at zl_RX8_60 zsX11_at rfl (Nat.le_of_ble_eq_true rfl) (Nat.le_of_ble_eq_true rfl) (S_at' (by decide) (ly_a1 hL)) ?_
    refine ex_callS (as := [.int (zat I 1 2000 x1)]) (st := []) dX8_tokenEnd_12 zmX8_isLetter zl_RX8_68 zsX8_isLetter rfl (Nat.le_of_ble_eq_true rfl) (Nat.le_of_ble_eq_true rfl) S_isLetter ?_
    refine ex_if (pc' := 42) dX8_tokenEnd_15 (by decide) (fun c => ?_) (fun c => ?_)
    · have h := h.1 c
      refine ex_step (pc' := 43) dX8_tokenEnd_42 rfl ?_
      refine ex_step (pc' := 44) dX8_tokenEnd_43 rfl ?_
      refine ex_icmp (pc' := 82) dX8_tokenEnd_44 (by decide) (fun c => ?_) (fun c => ?_)
      · have h := h.1 c
        refine ex_step (pc' := 83) dX8_tokenEnd_82 rfl ?_
        refine ex_step (pc' := 84) dX8_tokenEnd_83 rfl ?_
        refine ex_icmp (pc' := 93) dX8_tokenEnd_84 (by decide) (fun c => ?_) (fun c => ?_)
        · have h := h.1 c
          refine ex_step (pc' := 94) dX8_tokenEnd_93 rfl ?_
          rw [h]; exact ex_ret (v := some (.int x1)) ⟨dX8_tokenEnd_94, _, rfl, rfl⟩
        · have h := h.2 c
          refine ex_step (pc' := 88) dX8_tokenEnd_87 rfl ?_
          refine ex_step (pc' := 89) (st' := [.int 1, .int x1]) dX8_tokenEnd_88 rfl ?_
          refine ex_step (pc' := 90) dX8_tokenEnd_89 rfl ?_
          refine ex_step (pc' := 94) dX8_tokenEnd_90 rfl ?_
          rw [h]; exact ex_ret (v := some (.int (x1 + 1))) ⟨dX8_tokenEnd_94, _, rfl, rfl⟩
      · have h := h.2 c
        refine ex_step (pc' := 48) dX8_tokenEnd_47 rfl ?_
        refine ex_step (pc' := 49) dX8_tokenEnd_48 rfl ?_
        refine ex_callS (as := [.ref 1, .int x1]) (st := []) dX8_tokenEnd_49 zmX11_at zl_RX8_60 zsX11_at rfl (Nat.le_of_ble_eq_true rfl) (Nat.le_of_ble_eq_true rfl) (S_at' (by decide) (ly_a1 hL)) ?_
        refine ex_callS (as := [.int (zat I 1 2000 x1)]) (st := []) dX8_tokenEnd_52 zmX8_isDigit zl_RX8_71 zsX8_isDigit rfl (Nat.le_of_ble_eq_true rfl) (Nat.le_of_ble_eq_true rfl) S_isDigit ?_
        refine ex_if (pc' := 82) dX8_tokenEnd_55 (by decide) (fun c => ?_) (fun c => ?_)
        · have h := h.1 c
          refine ex_step (pc' := 83) dX8_tokenEnd_82 rfl ?_
          refine ex_step (pc' := 84) dX8_tokenEnd_83 rfl ?_
          refine ex_icmp (pc' := 93) dX8_tokenEnd_84 (by decide) (fun c => ?_) (fun c => ?_)
          · have h := h.1 c
            refine ex_step (pc' := 94) dX8_tokenEnd_93 rfl ?_
            rw [h]; exact ex_ret (v := some (.int x1)) ⟨dX8_tokenEnd_94, _, rfl, rfl⟩
          · have h := h.2 c
            refine ex_step (pc' := 88) dX8_tokenEnd_87 rfl ?_
            refine ex_step (pc' := 89) (st' := [.int 1, .int x1]) dX8_tokenEnd_88 rfl ?_
            refine ex_step (pc' := 90) dX8_tokenEnd_89 rfl ?_
            refine ex_step (pc' := 94) dX8_tokenEnd_90 rfl ?_
            rw [h]; exact ex_ret (v := some (.int (x1 + 1))) ⟨dX8_tokenEnd_94, _, rfl, rfl⟩
        · have h := h.2 c
          exact ex_less (ls' := [some (.ref 1), none, some (.int x2), some (.int x1)]) ⟨rfl, ⟨rfl, ⟨rfl, trivial⟩⟩⟩ h
    · have h := h.2 c
      exact ex_less (ls' := [some (.ref 1), none, some (.int x2), some (.int x1)]) ⟨rfl, ⟨rfl, ⟨rfl, trivial⟩⟩⟩ h
set_option maxHeartbeats 4000000 in
theorem BX8_tokenEnd_18 {d : Nat} {Z : zZ} {I : zI} {J : zJ} {o : zO} {t u : Nat} (x2 : Int32) (x3 : Int32) (hL : zLY Z t u)  (h : ((x2 ≤ x3 → o = (some (.int x3), Z, I, J)) ∧ (¬ x2 ≤ x3 → (((zbi (97 ≤ (zat I 1 2000 x3) ∧ (zat I 1 2000 x3) ≤ 122)) = 0 → o = (some (.int x3), Z, I, J)) ∧ (¬ (zbi (97 ≤ (zat I 1 2000 x3) ∧ (zat I 1 2000 x3) ≤ 122)) = 0 → zE (d + 1) kX8_tokenEnd 18 [some (.ref 1), none, some (.int x2), some (.int (x3 + 1))] [] Z I J o))))) : zE (d + 1) kX8_tokenEnd 18 [some (.ref 1), none, some (.int x2), some (.int x3)] [] Z I J o := by
  refine ex_step (pc' := 19) dX8_tokenEnd_18 rfl ?_
  refine ex_step (pc' := 20) dX8_tokenEnd_19 rfl ?_
  refine ex_icmp (pc' := 40) dX8_tokenEnd_20 (by decide) (fun c => ?_) (fun c => ?_)
  · have h := h.1 c
    refine ex_step (pc' := 41) dX8_tokenEnd_40 rfl ?_
    rw [h]; exact ex_ret (v := some (.int x3)) ⟨dX8_tokenEnd_41, _, rfl, rfl⟩
  · have h := h.2 c
    refine ex_step (pc' := 24) dX8_tokenEnd_23 rfl ?_
    refine ex_step (pc' := 25) dX8_tokenEnd_24 rfl ?_
    refine ex_callS (as := [.ref 1, .int x3]) (st := []) dX8_tokenEnd_25 zmX11_at zl_RX8_60 zsX11_at rfl (Nat.le_of_ble_eq_true rfl) (Nat.le_of_ble_eq_true rfl) (S_at' (by decide) (ly_a1 hL)) ?_
    refine ex_callS (as := [.int (zat I 1 2000 x3)]) (st := []) dX8_tokenEnd_28 zmX8_isLetter zl_RX8_68 zsX8_isLetter rfl (Nat.le_of_ble_eq_true rfl) (Nat.le_of_ble_eq_true rfl) S_isLetter ?_
    refine ex_if (pc' := 40) dX8_tokenEnd_31 (by decide) (fun c => ?_) (fun c => ?_)
    · have h := h.1 c
      refine ex_step (pc' := 41) dX8_tokenEnd_40 rfl ?_
      rw [h]; exact ex_ret (v := some (.int x3)) ⟨dX8_tokenEnd_41, _, rfl, rfl⟩
    · have h := h.2 c
      refine ex_step (pc' := 37) (ls' := [some (.ref 1), none, some (.int x2), some (.int (x3 + 1))]) dX8_tokenEnd_34 rfl ?_
      refine ex_step (pc' := 18) dX8_tokenEnd_37 rfl ?_
      exact h
set_option maxHeartbeats 4000000 in
theorem BX8_tokenEnd_58 {d : Nat} {Z : zZ} {I : zI} {J : zJ} {o : zO} {t u : Nat} (x2 : Int32) (x3 : Int32) (hL : zLY Z t u)  (h : ((x2 ≤ x3 → o = (some (.int x3), Z, I, J)) ∧ (¬ x2 ≤ x3 → (((zbi (48 ≤ (zat I 1 2000 x3) ∧ (zat I 1 2000 x3) ≤ 57)) = 0 → o = (some (.int x3), Z, I, J)) ∧ (¬ (zbi (48 ≤ (zat I 1 2000 x3) ∧ (zat I 1 2000 x3) ≤ 57)) = 0 → zE (d + 1) kX8_tokenEnd 58 [some (.ref 1), none, some (.int x2), some (.int (x3 + 1))] [] Z I J o))))) : zE (d + 1) kX8_tokenEnd 58 [some (.ref 1), none, some (.int x2), some (.int x3)] [] Z I J o := by
  refine ex_step (pc' := 59) dX8_tokenEnd_58 rfl ?_
  refine ex_step (pc' := 60) dX8_tokenEnd_59 rfl ?_
  refine ex_icmp (pc' := 80) dX8_tokenEnd_60 (by decide) (fun c => ?_) (fun c => ?_)
  · have h := h.1 c
    refine ex_step (pc' := 81) dX8_tokenEnd_80 rfl ?_
    rw [h]; exact ex_ret (v := some (.int x3)) ⟨dX8_tokenEnd_81, _, rfl, rfl⟩
  · have h := h.2 c
    refine ex_step (pc' := 64) dX8_tokenEnd_63 rfl ?_
    refine ex_step (pc' := 65) dX8_tokenEnd_64 rfl ?_
    refine ex_callS (as := [.ref 1, .int x3]) (st := []) dX8_tokenEnd_65 zmX11_at zl_RX8_60 zsX11_at rfl (Nat.le_of_ble_eq_true rfl) (Nat.le_of_ble_eq_true rfl) (S_at' (by decide) (ly_a1 hL)) ?_
    refine ex_callS (as := [.int (zat I 1 2000 x3)]) (st := []) dX8_tokenEnd_68 zmX8_isDigit zl_RX8_71 zsX8_isDigit rfl (Nat.le_of_ble_eq_true rfl) (Nat.le_of_ble_eq_true rfl) S_isDigit ?_
    refine ex_if (pc' := 80) dX8_tokenEnd_71 (by decide) (fun c => ?_) (fun c => ?_)
    · have h := h.1 c
      refine ex_step (pc' := 81) dX8_tokenEnd_80 rfl ?_
      rw [h]; exact ex_ret (v := some (.int x3)) ⟨dX8_tokenEnd_81, _, rfl, rfl⟩
    · have h := h.2 c
      refine ex_step (pc' := 77) (ls' := [some (.ref 1), none, some (.int x2), some (.int (x3 + 1))]) dX8_tokenEnd_74 rfl ?_
      refine ex_step (pc' := 58) dX8_tokenEnd_77 rfl ?_
      exact h
set_option maxHeartbeats 4000000 in
theorem BX8_wordKind_0 {d : Nat} {Z : zZ} {I : zI} {J : zJ} {o : zO} {t u : Nat} (x2 : Int32) (x3 : Int32) (hL : zLY Z t u)  (h : zE (d + 1) kX8_wordKind 6 [some (.ref 20), some (.ref 1), none, some (.int x3), some (.long 0), none, some (.int x2)] [] Z I J o) : zE (d + 1) kX8_wordKind 0 [some (.ref 20), some (.ref 1), some (.int x2), some (.int x3), none, none, none] [] Z I J o := by
  refine ex_step (pc' := 1) (st' := [.long 0]) dX8_wordKind_0 rfl ?_
  refine ex_step (pc' := 3) (ls' := [some (.ref 20), some (.ref 1), some (.int x2), some (.int x3), some (.long 0), none, none]) dX8_wordKind_1 rfl ?_
  refine ex_step (pc' := 4) dX8_wordKind_3 rfl ?_
  refine ex_step (pc' := 6) (ls' := [some (.ref 20), some (.ref 1), some (.int x2), some (.int x3), some (.long 0), none, some (.int x2)]) dX8_wordKind_4 rfl ?_
  exact ex_less (ls' := [some (.ref 20), some (.ref 1), none, some (.int x3), some (.long 0), none, some (.int x2)]) ⟨rfl, ⟨rfl, ⟨rfl, ⟨rfl, ⟨rfl, trivial⟩⟩⟩⟩⟩ h
set_option maxHeartbeats 4000000 in
theorem BX8_wordKind_6 {d : Nat} {Z : zZ} {I : zI} {J : zJ} {o : zO} {t u : Nat} (x3 : Int32) (w4 : Int64) (x6 : Int32) (hL : zLY Z t u)  (h : ((x3 ≤ x6 → (((I 20 5) < 0 → zE (d + 1) kX8_wordKind 72 [some (.ref 20), none, none, none, some (.long w4), none, some (.int 0)] [] Z I J o) ∧ (¬ (I 20 5) < 0 → (((Int32.ofNat 402) ≤ (I 20 5) → zE (d + 1) kX8_wordKind 72 [some (.ref 20), none, none, none, some (.long w4), none, some (.int 0)] [] Z I J o) ∧ (¬ (Int32.ofNat 402) ≤ (I 20 5) → (vp_in (I 20 5) 402 ∧ (∀ J1 : zJ, J1 = zu J 24 (I 20 5).toNatClampNeg w4 → zE (d + 1) kX8_wordKind 72 [some (.ref 20), none, none, none, some (.long w4), none, some (.int 0)] [] Z I J1 o))))))) ∧ (¬ x3 ≤ x6 → zE (d + 1) kX8_wordKind 6 [some (.ref 20), some (.ref 1), none, some (.int x3), some (.long ((w4 * 32) + (((zat I 1 2000 x6) - 97) + 1).toInt64)), none, some (.int (x6 + 1))] [] Z I J o))) : zE (d + 1) kX8_wordKind 6 [some (.ref 20), some (.ref 1), none, some (.int x3), some (.long w4), none, some (.int x6)] [] Z I J o := by
  refine ex_step (pc' := 8) dX8_wordKind_6 rfl ?_
  refine ex_step (pc' := 9) dX8_wordKind_8 rfl ?_
  refine ex_icmp (pc' := 39) dX8_wordKind_9 (by decide) (fun c => ?_) (fun c => ?_)
  · have h := h.1 c
    refine ex_step (pc' := 40) dX8_wordKind_39 rfl ?_
    refine ex_geti dX8_wordKind_40 wf_RX8_42 (ly_a20 hL) rfl ?_
    refine ex_if (pc' := 69) dX8_wordKind_43 (by decide) (fun c => ?_) (fun c => ?_)
    · have h := h.1 c
      refine ex_step (pc' := 70) (st' := [.int 0]) dX8_wordKind_69 rfl ?_
      refine ex_step (pc' := 72) (ls' := [some (.ref 20), some (.ref 1), none, some (.int x3), some (.long w4), none, some (.int 0)]) dX8_wordKind_70 rfl ?_
      exact ex_less (ls' := [some (.ref 20), none, none, none, some (.long w4), none, some (.int 0)]) ⟨rfl, ⟨rfl, ⟨rfl, trivial⟩⟩⟩ h
    · have h := h.2 c
      refine ex_step (pc' := 47) dX8_wordKind_46 rfl ?_
      refine ex_geti dX8_wordKind_47 wf_RX8_42 (ly_a20 hL) rfl ?_
      refine ex_step (pc' := 51) dX8_wordKind_50 rfl ?_
      refine ex_getr dX8_wordKind_51 wf_RX8_21 (ly_a20 hL) rfl (ly_r20_3 hL) ?_
      refine ex_alen dX8_wordKind_54 (Or.inl ⟨(ly_a24 hL), by decide, by decide⟩) ?_
      refine ex_icmp (pc' := 69) dX8_wordKind_55 (by decide) (fun c => ?_) (fun c => ?_)
      · have h := h.1 c
        refine ex_step (pc' := 70) (st' := [.int 0]) dX8_wordKind_69 rfl ?_
        refine ex_step (pc' := 72) (ls' := [some (.ref 20), some (.ref 1), none, some (.int x3), some (.long w4), none, some (.int 0)]) dX8_wordKind_70 rfl ?_
        exact ex_less (ls' := [some (.ref 20), none, none, none, some (.long w4), none, some (.int 0)]) ⟨rfl, ⟨rfl, ⟨rfl, trivial⟩⟩⟩ h
      · have h := h.2 c
        refine ex_step (pc' := 59) dX8_wordKind_58 rfl ?_
        refine ex_getr dX8_wordKind_59 wf_RX8_21 (ly_a20 hL) rfl (ly_r20_3 hL) ?_
        refine ex_step (pc' := 63) dX8_wordKind_62 rfl ?_
        refine ex_geti dX8_wordKind_63 wf_RX8_42 (ly_a20 hL) rfl ?_
        refine ex_step (pc' := 68) dX8_wordKind_66 rfl ?_
        obtain ⟨hv, h⟩ := h
        refine ex_lastN dX8_wordKind_68 (ly_a24 hL) hv (fun J1 eJ1 => ?_)
        have h := h J1 eJ1
        refine ex_step (pc' := 70) (st' := [.int 0]) dX8_wordKind_69 rfl ?_
        refine ex_step (pc' := 72) (ls' := [some (.ref 20), some (.ref 1), none, some (.int x3), some (.long w4), none, some (.int 0)]) dX8_wordKind_70 rfl ?_
        exact ex_less (ls' := [some (.ref 20), none, none, none, some (.long w4), none, some (.int 0)]) ⟨rfl, ⟨rfl, ⟨rfl, trivial⟩⟩⟩ h
  · have h := h.2 c
    refine ex_step (pc' := 14) dX8_wordKind_12 rfl ?_
    refine ex_ldc2 dX8_wordKind_14 zk_RX8_40 ?_
    refine ex_step (pc' := 18) dX8_wordKind_17 rfl ?_
    refine ex_step (pc' := 19) dX8_wordKind_18 rfl ?_
    refine ex_step (pc' := 21) dX8_wordKind_19 rfl ?_
    refine ex_callS (as := [.ref 1, .int x6]) (st := [.long (w4 * 32)]) dX8_wordKind_21 zmX11_at zl_RX8_60 zsX11_at rfl (Nat.le_of_ble_eq_true rfl) (Nat.le_of_ble_eq_true rfl) (S_at' (by decide) (ly_a1 hL)) ?_
    refine ex_step (pc' := 26) (st' := [.int 97, .int (zat I 1 2000 x6), .long (w4 * 32)]) dX8_wordKind_24 rfl ?_
    refine ex_step (pc' := 27) dX8_wordKind_26 rfl ?_
    refine ex_step (pc' := 28) (st' := [.int 1, .int ((zat I 1 2000 x6) - 97), .long (w4 * 32)]) dX8_wordKind_27 rfl ?_
    refine ex_step (pc' := 29) dX8_wordKind_28 rfl ?_
    refine ex_step (pc' := 30) dX8_wordKind_29 rfl ?_
    refine ex_step (pc' := 31) dX8_wordKind_30 rfl ?_
    refine ex_step (pc' := 33) (ls' := [some (.ref 20), some (.ref 1), none, some (.int x3), some (.long ((w4 * 32) + (((zat I 1 2000 x6) - 97) + 1).toInt64)), none, some (.int x6)]) dX8_wordKind_31 rfl ?_
    refine ex_step (pc' := 36) (ls' := [some (.ref 20), some (.ref 1), none, some (.int x3), some (.long ((w4 * 32) + (((zat I 1 2000 x6) - 97) + 1).toInt64)), none, some (.int (x6 + 1))]) dX8_wordKind_33 rfl ?_
    refine ex_step (pc' := 6) dX8_wordKind_36 rfl ?_
    exact h
set_option maxHeartbeats 4000000 in
theorem BX8_wordKind_72 {d : Nat} {Z : zZ} {I : zI} {J : zJ} {o : zO} {t u : Nat} (w4 : Int64) (x6 : Int32) (hL : zLY Z t u)  (h : (((Int32.ofNat 17) ≤ x6 → o = (some (.int 2), Z, I, J)) ∧ (¬ (Int32.ofNat 17) ≤ x6 → (vp_in x6 17 ∧ ((¬ (lg_cmp (J 25 x6.toNatClampNeg) w4) = 0 → zE (d + 1) kX8_wordKind 72 [some (.ref 20), none, none, none, some (.long w4), none, some (.int (x6 + 1))] [] Z I J o) ∧ ((lg_cmp (J 25 x6.toNatClampNeg) w4) = 0 → o = (some (.int ((128 : Int32) + x6)), Z, I, J))))))) : zE (d + 1) kX8_wordKind 72 [some (.ref 20), none, none, none, some (.long w4), none, some (.int x6)] [] Z I J o := by
  refine ex_step (pc' := 74) dX8_wordKind_72 rfl ?_
  refine ex_step (pc' := 75) dX8_wordKind_74 rfl ?_
  refine ex_getr dX8_wordKind_75 wf_RX8_25 (ly_a20 hL) rfl (ly_r20_4 hL) ?_
  refine ex_alen dX8_wordKind_78 (Or.inl ⟨(ly_a25 hL), by decide, by decide⟩) ?_
  refine ex_icmp (pc' := 108) dX8_wordKind_79 (by decide) (fun c => ?_) (fun c => ?_)
  · have h := h.1 c
    refine ex_step (pc' := 109) (st' := [.int 2]) dX8_wordKind_108 rfl ?_
    rw [h]; exact ex_ret (v := some (.int 2)) ⟨dX8_wordKind_109, _, rfl, rfl⟩
  · have h := h.2 c
    refine ex_step (pc' := 83) dX8_wordKind_82 rfl ?_
    refine ex_getr dX8_wordKind_83 wf_RX8_25 (ly_a20 hL) rfl (ly_r20_4 hL) ?_
    refine ex_step (pc' := 88) dX8_wordKind_86 rfl ?_
    obtain ⟨hv, h⟩ := h
    refine ex_lald dX8_wordKind_88 (ly_a25 hL) hv ?_
    refine ex_step (pc' := 91) dX8_wordKind_89 rfl ?_
    refine ex_step (pc' := 92) dX8_wordKind_91 rfl ?_
    refine ex_if (pc' := 102) dX8_wordKind_92 (by decide) (fun c => ?_) (fun c => ?_)
    · have h := h.1 c
      refine ex_step (pc' := 105) (ls' := [some (.ref 20), none, none, none, some (.long w4), none, some (.int (x6 + 1))]) dX8_wordKind_102 rfl ?_
      refine ex_step (pc' := 72) dX8_wordKind_105 rfl ?_
      exact h
    · have h := h.2 (Classical.not_not.mp c)
      refine ex_step (pc' := 98) (st' := [.int 128]) dX8_wordKind_95 rfl ?_
      refine ex_step (pc' := 100) dX8_wordKind_98 rfl ?_
      refine ex_step (pc' := 101) dX8_wordKind_100 rfl ?_
      rw [h]; exact ex_ret (v := some (.int ((128 : Int32) + x6))) ⟨dX8_wordKind_101, _, rfl, rfl⟩
set_option maxHeartbeats 4000000 in
theorem BX8_intKind_0 {d : Nat} {Z : zZ} {I : zI} {J : zJ} {o : zO} {t u : Nat} (x2 : Int32) (x3 : Int32) (hL : zLY Z t u)  (h : zE (d + 1) kX8_intKind 6 [some (.ref 20), some (.ref 1), none, some (.int x3), some (.int 0), some (.int x2)] [] Z I J o) : zE (d + 1) kX8_intKind 0 [some (.ref 20), some (.ref 1), some (.int x2), some (.int x3), none, none] [] Z I J o := by
  refine ex_step (pc' := 1) (st' := [.int 0]) dX8_intKind_0 rfl ?_
  refine ex_step (pc' := 3) (ls' := [some (.ref 20), some (.ref 1), some (.int x2), some (.int x3), some (.int 0), none]) dX8_intKind_1 rfl ?_
  refine ex_step (pc' := 4) dX8_intKind_3 rfl ?_
  refine ex_step (pc' := 6) (ls' := [some (.ref 20), some (.ref 1), some (.int x2), some (.int x3), some (.int 0), some (.int x2)]) dX8_intKind_4 rfl ?_
  exact ex_less (ls' := [some (.ref 20), some (.ref 1), none, some (.int x3), some (.int 0), some (.int x2)]) ⟨rfl, ⟨rfl, ⟨rfl, ⟨rfl, ⟨rfl, trivial⟩⟩⟩⟩⟩ h
set_option maxHeartbeats 4000000 in
theorem BX8_intKind_6 {d : Nat} {Z : zZ} {I : zI} {J : zJ} {o : zO} {t u : Nat} (x3 : Int32) (x4 : Int32) (x5 : Int32) (hL : zLY Z t u)  (h : ((x3 ≤ x5 → (∀ I1 : zI, I1 = zpt I 23 402 (I 20 5) x4 → o = (some (.int 3), Z, I1, J))) ∧ (¬ x3 ≤ x5 → (∀ y2 : Int32, y2 = ((x4 * 10) + ((zat I 1 2000 x5) - 48)) → zE (d + 1) kX8_intKind 6 [some (.ref 20), some (.ref 1), none, some (.int x3), some (.int y2), some (.int (x5 + 1))] [] Z I J o)))) : zE (d + 1) kX8_intKind 6 [some (.ref 20), some (.ref 1), none, some (.int x3), some (.int x4), some (.int x5)] [] Z I J o := by
  refine ex_step (pc' := 8) dX8_intKind_6 rfl ?_
  refine ex_step (pc' := 9) dX8_intKind_8 rfl ?_
  refine ex_icmp (pc' := 35) dX8_intKind_9 (by decide) (fun c => ?_) (fun c => ?_)
  · have h := h.1 c
    refine ex_step (pc' := 36) dX8_intKind_35 rfl ?_
    refine ex_getr dX8_intKind_36 wf_RX8_18 (ly_a20 hL) rfl (ly_r20_2 hL) ?_
    refine ex_step (pc' := 40) dX8_intKind_39 rfl ?_
    refine ex_geti dX8_intKind_40 wf_RX8_42 (ly_a20 hL) rfl ?_
    refine ex_step (pc' := 45) dX8_intKind_43 rfl ?_
    obtain ⟨I1, eI1⟩ : ∃ q : zI, q = zpt I 23 402 (I 20 5) x4 := ⟨_, rfl⟩
    have h := h I1 eI1
    refine ex_callS (as := [.ref 23, .int (I 20 5), .int x4]) (st := []) dX8_intKind_45 zmX11_put zl_RX8_56 zsX11_put rfl (Nat.le_of_ble_eq_true rfl) (Nat.le_of_ble_eq_true rfl) (eI1 ▸ (S_put' (by decide) (ly_a23 hL))) ?_
    refine ex_step (pc' := 49) (st' := [.int 3]) dX8_intKind_48 rfl ?_
    rw [h]; exact ex_ret (v := some (.int 3)) ⟨dX8_intKind_49, _, rfl, rfl⟩
  · have h := h.2 c
    refine ex_step (pc' := 14) dX8_intKind_12 rfl ?_
    refine ex_step (pc' := 16) (st' := [.int 10, .int x4]) dX8_intKind_14 rfl ?_
    refine ex_step (pc' := 17) dX8_intKind_16 rfl ?_
    refine ex_step (pc' := 18) dX8_intKind_17 rfl ?_
    refine ex_step (pc' := 20) dX8_intKind_18 rfl ?_
    refine ex_callS (as := [.ref 1, .int x5]) (st := [.int (x4 * 10)]) dX8_intKind_20 zmX11_at zl_RX8_60 zsX11_at rfl (Nat.le_of_ble_eq_true rfl) (Nat.le_of_ble_eq_true rfl) (S_at' (by decide) (ly_a1 hL)) ?_
    refine ex_step (pc' := 25) (st' := [.int 48, .int (zat I 1 2000 x5), .int (x4 * 10)]) dX8_intKind_23 rfl ?_
    refine ex_step (pc' := 26) dX8_intKind_25 rfl ?_
    refine ex_step (pc' := 27) dX8_intKind_26 rfl ?_
    refine ex_topi (fun y2 ey2 => ?_)
    have h := h y2 ey2
    refine ex_step (pc' := 29) (ls' := [some (.ref 20), some (.ref 1), none, some (.int x3), some (.int y2), some (.int x5)]) dX8_intKind_27 rfl ?_
    refine ex_step (pc' := 32) (ls' := [some (.ref 20), some (.ref 1), none, some (.int x3), some (.int y2), some (.int (x5 + 1))]) dX8_intKind_29 rfl ?_
    refine ex_step (pc' := 6) dX8_intKind_32 rfl ?_
    exact h
set_option maxHeartbeats 4000000 in
theorem BX9_add_0 {d : Nat} {Z : zZ} {I : zI} {J : zJ} {o : zO} {t u : Nat} (x1 : Int32) (x2 : Int32) (x3 : Int32) (hL : zLY Z t u)  (h : (((I 415 0) < 12 → (∀ I1 : zI, I1 = zpt I 416 12 (I 415 0) x1 → (∀ I2 : zI, I2 = zpt I1 417 12 (I1 415 0) x2 → ((x3 = 0 → (∀ I3 : zI, I3 = zpt I2 418 12 (I2 415 0) 0 → (∀ I4 : zI, I4 = zu I3 415 0 ((I3 415 0) + 1) → o = (some (.int ((I4 415 0) - 1)), Z, I4, J)))) ∧ (¬ x3 = 0 → (∀ I5 : zI, I5 = zpt I2 418 12 (I2 415 0) 1 → (∀ I6 : zI, I6 = zu I5 415 0 ((I5 415 0) + 1) → o = (some (.int ((I6 415 0) - 1)), Z, I6, J)))))))) ∧ (¬ (I 415 0) < 12 → o = (some (.int (-1)), Z, I, J)))) : zE (d + 1) kX9_add 0 [some (.ref 415), some (.int x1), some (.int x2), some (.int x3)] [] Z I J o := by
  refine ex_step (pc' := 1) dX9_add_0 rfl ?_
  refine ex_geti dX9_add_1 wf_RX9_24 (ly_a415 hL) rfl ?_
  refine ex_step (pc' := 6) (st' := [.int 12, .int (I 415 0)]) dX9_add_4 rfl ?_
  refine ex_icmp (pc' := 11) dX9_add_6 (by decide) (fun c => ?_) (fun c => ?_)
  · have h := h.1 c
    refine ex_step (pc' := 12) dX9_add_11 rfl ?_
    refine ex_getr dX9_add_12 wf_RX9_9 (ly_a415 hL) rfl (ly_r415_1 hL) ?_
    refine ex_step (pc' := 16) dX9_add_15 rfl ?_
    refine ex_geti dX9_add_16 wf_RX9_24 (ly_a415 hL) rfl ?_
    refine ex_step (pc' := 20) dX9_add_19 rfl ?_
    obtain ⟨I1, eI1⟩ : ∃ q : zI, q = zpt I 416 12 (I 415 0) x1 := ⟨_, rfl⟩
    have h := h I1 eI1
    refine ex_callS (as := [.ref 416, .int (I 415 0), .int x1]) (st := []) dX9_add_20 zmX11_put zl_RX9_28 zsX11_put rfl (Nat.le_of_ble_eq_true rfl) (Nat.le_of_ble_eq_true rfl) (eI1 ▸ (S_put' (by decide) (ly_a416 hL))) ?_
    refine ex_step (pc' := 24) dX9_add_23 rfl ?_
    refine ex_getr dX9_add_24 wf_RX9_15 (ly_a415 hL) rfl (ly_r415_2 hL) ?_
    refine ex_step (pc' := 28) dX9_add_27 rfl ?_
    refine ex_geti dX9_add_28 wf_RX9_24 (ly_a415 hL) rfl ?_
    refine ex_step (pc' := 32) dX9_add_31 rfl ?_
    obtain ⟨I2, eI2⟩ : ∃ q : zI, q = zpt I1 417 12 (I1 415 0) x2 := ⟨_, rfl⟩
    have h := h I2 eI2
    refine ex_callS (as := [.ref 417, .int (I1 415 0), .int x2]) (st := []) dX9_add_32 zmX11_put zl_RX9_28 zsX11_put rfl (Nat.le_of_ble_eq_true rfl) (Nat.le_of_ble_eq_true rfl) (eI2 ▸ (S_put' (by decide) (ly_a417 hL))) ?_
    refine ex_step (pc' := 36) dX9_add_35 rfl ?_
    refine ex_getr dX9_add_36 wf_RX9_18 (ly_a415 hL) rfl (ly_r415_3 hL) ?_
    refine ex_step (pc' := 40) dX9_add_39 rfl ?_
    refine ex_geti dX9_add_40 wf_RX9_24 (ly_a415 hL) rfl ?_
    refine ex_step (pc' := 44) dX9_add_43 rfl ?_
    refine ex_if (pc' := 51) dX9_add_44 (by decide) (fun c => ?_) (fun c => ?_)
    · have h := h.1 c
      refine ex_step (pc' := 52) (st' := [.int 0, .int (I2 415 0), .ref 418]) dX9_add_51 rfl ?_
      obtain ⟨I3, eI3⟩ : ∃ q : zI, q = zpt I2 418 12 (I2 415 0) 0 := ⟨_, rfl⟩
      have h := h I3 eI3
      refine ex_callS (as := [.ref 418, .int (I2 415 0), .int 0]) (st := []) dX9_add_52 zmX11_put zl_RX9_28 zsX11_put rfl (Nat.le_of_ble_eq_true rfl) (Nat.le_of_ble_eq_true rfl) (eI3 ▸ (S_put' (by decide) (ly_a418 hL))) ?_
      refine ex_step (pc' := 56) dX9_add_55 rfl ?_
      refine ex_step (pc' := 57) dX9_add_56 rfl ?_
      refine ex_geti dX9_add_57 wf_RX9_24 (ly_a415 hL) rfl ?_
      refine ex_step (pc' := 61) (st' := [.int 1, .int (I3 415 0), .ref 415]) dX9_add_60 rfl ?_
      refine ex_step (pc' := 62) dX9_add_61 rfl ?_
      refine ex_putiN dX9_add_62 (wp_RX9_24 _) (ly_a415 hL) rfl ⟨rfl, rfl⟩ (fun I4 eI4 => ?_)
      have h := h I4 eI4
      refine ex_step (pc' := 66) dX9_add_65 rfl ?_
      refine ex_geti dX9_add_66 wf_RX9_24 (ly_a415 hL) rfl ?_
      refine ex_step (pc' := 70) (st' := [.int 1, .int (I4 415 0)]) dX9_add_69 rfl ?_
      refine ex_step (pc' := 71) dX9_add_70 rfl ?_
      rw [h]; exact ex_ret (v := some (.int ((I4 415 0) - 1))) ⟨dX9_add_71, _, rfl, rfl⟩
    · have h := h.2 c
      refine ex_step (pc' := 48) (st' := [.int 1, .int (I2 415 0), .ref 418]) dX9_add_47 rfl ?_
      refine ex_step (pc' := 52) dX9_add_48 rfl ?_
      obtain ⟨I5, eI5⟩ : ∃ q : zI, q = zpt I2 418 12 (I2 415 0) 1 := ⟨_, rfl⟩
      have h := h I5 eI5
      refine ex_callS (as := [.ref 418, .int (I2 415 0), .int 1]) (st := []) dX9_add_52 zmX11_put zl_RX9_28 zsX11_put rfl (Nat.le_of_ble_eq_true rfl) (Nat.le_of_ble_eq_true rfl) (eI5 ▸ (S_put' (by decide) (ly_a418 hL))) ?_
      refine ex_step (pc' := 56) dX9_add_55 rfl ?_
      refine ex_step (pc' := 57) dX9_add_56 rfl ?_
      refine ex_geti dX9_add_57 wf_RX9_24 (ly_a415 hL) rfl ?_
      refine ex_step (pc' := 61) (st' := [.int 1, .int (I5 415 0), .ref 415]) dX9_add_60 rfl ?_
      refine ex_step (pc' := 62) dX9_add_61 rfl ?_
      refine ex_putiN dX9_add_62 (wp_RX9_24 _) (ly_a415 hL) rfl ⟨rfl, rfl⟩ (fun I6 eI6 => ?_)
      have h := h I6 eI6
      refine ex_step (pc' := 66) dX9_add_65 rfl ?_
      refine ex_geti dX9_add_66 wf_RX9_24 (ly_a415 hL) rfl ?_
      refine ex_step (pc' := 70) (st' := [.int 1, .int (I6 415 0)]) dX9_add_69 rfl ?_
      refine ex_step (pc' := 71) dX9_add_70 rfl ?_
      rw [h]; exact ex_ret (v := some (.int ((I6 415 0) - 1))) ⟨dX9_add_71, _, rfl, rfl⟩
  · have h := h.2 c
    refine ex_step (pc' := 10) (st' := [.int (-1)]) dX9_add_9 rfl ?_
    rw [h]; exact ex_ret (v := some (.int (-1))) ⟨dX9_add_10, _, rfl, rfl⟩
set_option maxHeartbeats 4000000 in
theorem BX9_countRows_0 {d : Nat} {Z : zZ} {I : zI} {J : zJ} {o : zO} {t u : Nat} {t1 : Nat} {d2 : Nat} (x3 : Int32) (x4 : Int32) (x5 : Int32) (hL : zLY Z t u) (ht1 : zTx Z t1) (hd2 : zDy Z d2) (h : zE (d + 6) kX9_countRows 6 [some (.ref 415), some (.ref t1), some (.ref d2), some (.int x3), some (.int x4), some (.int x5), some (.int 1), some (.int 0), none] [] Z I J o) : zE (d + 6) kX9_countRows 0 [some (.ref 415), some (.ref t1), some (.ref d2), some (.int x3), some (.int x4), some (.int x5), none, none, none] [] Z I J o := by
  refine ex_step (pc' := 1) (st' := [.int 1]) dX9_countRows_0 rfl ?_
  refine ex_step (pc' := 3) (ls' := [some (.ref 415), some (.ref t1), some (.ref d2), some (.int x3), some (.int x4), some (.int x5), some (.int 1), none, none]) dX9_countRows_1 rfl ?_
  refine ex_step (pc' := 4) (st' := [.int 0]) dX9_countRows_3 rfl ?_
  refine ex_step (pc' := 6) (ls' := [some (.ref 415), some (.ref t1), some (.ref d2), some (.int x3), some (.int x4), some (.int x5), some (.int 1), some (.int 0), none]) dX9_countRows_4 rfl ?_
  exact h
set_option maxHeartbeats 4000000 in
theorem BX9_countRows_6 {d : Nat} {Z : zZ} {I : zI} {J : zJ} {o : zO} {t u : Nat} {t1 : Nat} {d2 : Nat} (x3 : Int32) (x4 : Int32) (x5 : Int32) (x6 : Int32) (x7 : Int32) (hL : zLY Z t u) (ht1 : zTx Z t1) (hd2 : zDy Z d2) (h : (((I t1 2) ≤ x7 → ((x6 ≤ 1000 → ((¬ x5 = 0 → (∃ (I1 : zI), zE (d + 5) kJ7_fill_53178 0 [some (.ref 419), some (.int 0), none, none] [] Z I J (none, Z, I1, J) ∧ zE (d + 6) kX9_countRows 62 [some (.ref 415), some (.ref t1), some (.ref d2), some (.int x3), some (.int x4), some (.int x5), some (.int x6), some (.int 0), some (.int 0)] [] Z I1 J o)) ∧ (x5 = 0 → o = (some (.int x6), Z, I, J)))) ∧ (¬ x6 ≤ 1000 → o = (some (.int (-2)), Z, I, J)))) ∧ (¬ (I t1 2) ≤ x7 → zE (d + 6) kX9_countRows 6 [some (.ref 415), some (.ref t1), some (.ref d2), some (.int x3), some (.int x4), some (.int x5), some (.int (x6 * (x3 + 1))), some (.int (x7 + 1)), none] [] Z I J o))) : zE (d + 6) kX9_countRows 6 [some (.ref 415), some (.ref t1), some (.ref d2), some (.int x3), some (.int x4), some (.int x5), some (.int x6), some (.int x7), none] [] Z I J o := by
  refine ex_step (pc' := 8) dX9_countRows_6 rfl ?_
  refine ex_step (pc' := 9) dX9_countRows_8 rfl ?_
  refine ex_geti dX9_countRows_9 wf_RX9_32 (zTx_o ht1) rfl ?_
  refine ex_icmp (pc' := 29) dX9_countRows_12 (by decide) (fun c => ?_) (fun c => ?_)
  · have h := h.1 c
    refine ex_step (pc' := 31) dX9_countRows_29 rfl ?_
    refine ex_step (pc' := 34) (st' := [.int 1000, .int x6]) dX9_countRows_31 rfl ?_
    refine ex_icmp (pc' := 40) dX9_countRows_34 (by decide) (fun c => ?_) (fun c => ?_)
    · have h := h.1 c
      refine ex_step (pc' := 42) dX9_countRows_40 rfl ?_
      refine ex_if (pc' := 48) dX9_countRows_42 (by decide) (fun c => ?_) (fun c => ?_)
      · have h := h.1 c
        refine ex_step (pc' := 49) (st' := [.int 0]) dX9_countRows_48 rfl ?_
        refine ex_step (pc' := 51) (ls' := [some (.ref 415), some (.ref t1), some (.ref d2), some (.int x3), some (.int x4), some (.int x5), some (.int x6), some (.int 0), none]) dX9_countRows_49 rfl ?_
        refine ex_step (pc' := 52) dX9_countRows_51 rfl ?_
        refine ex_getr dX9_countRows_52 wf_RX9_21 (ly_a415 hL) rfl (ly_r415_4 hL) ?_
        refine ex_step (pc' := 56) (st' := [.int 0, .ref 419]) dX9_countRows_55 rfl ?_
        obtain ⟨I1, hc, h⟩ := h
        refine ex_callS (as := [.ref 419, .int 0]) (st := []) dX9_countRows_56 zmJ7_fill_53178 zl_RX9_36 zsJ7_fill_53178 rfl (Nat.le_of_ble_eq_true rfl) (Nat.le_of_ble_eq_true rfl) hc ?_
        refine ex_step (pc' := 60) (st' := [.int 0]) dX9_countRows_59 rfl ?_
        refine ex_step (pc' := 62) (ls' := [some (.ref 415), some (.ref t1), some (.ref d2), some (.int x3), some (.int x4), some (.int x5), some (.int x6), some (.int 0), some (.int 0)]) dX9_countRows_60 rfl ?_
        exact h
      · have h := h.2 (Classical.not_not.mp c)
        refine ex_step (pc' := 47) dX9_countRows_45 rfl ?_
        rw [h]; exact ex_ret (v := some (.int x6)) ⟨dX9_countRows_47, _, rfl, rfl⟩
    · have h := h.2 c
      refine ex_step (pc' := 39) (st' := [.int (-2)]) dX9_countRows_37 rfl ?_
      rw [h]; exact ex_ret (v := some (.int (-2))) ⟨dX9_countRows_39, _, rfl, rfl⟩
  · have h := h.2 c
    refine ex_step (pc' := 17) dX9_countRows_15 rfl ?_
    refine ex_step (pc' := 18) dX9_countRows_17 rfl ?_
    refine ex_step (pc' := 19) (st' := [.int 1, .int x3, .int x6]) dX9_countRows_18 rfl ?_
    refine ex_step (pc' := 20) dX9_countRows_19 rfl ?_
    refine ex_step (pc' := 21) dX9_countRows_20 rfl ?_
    refine ex_step (pc' := 23) (ls' := [some (.ref 415), some (.ref t1), some (.ref d2), some (.int x3), some (.int x4), some (.int x5), some (.int (x6 * (x3 + 1))), some (.int x7), none]) dX9_countRows_21 rfl ?_
    refine ex_step (pc' := 26) (ls' := [some (.ref 415), some (.ref t1), some (.ref d2), some (.int x3), some (.int x4), some (.int x5), some (.int (x6 * (x3 + 1))), some (.int (x7 + 1)), none]) dX9_countRows_23 rfl ?_
    refine ex_step (pc' := 6) dX9_countRows_26 rfl ?_
    exact h
set_option maxHeartbeats 4000000 in
theorem BX9_countRows_62 {d : Nat} {Z : zZ} {I : zI} {J : zJ} {o : zO} {t u : Nat} {t1 : Nat} {d2 : Nat} (x3 : Int32) (x4 : Int32) (x5 : Int32) (x6 : Int32) (x7 : Int32) (x8 : Int32) (hL : zLY Z t u) (ht1 : zTx Z t1) (hd2 : zDy Z d2) (h : ((x6 ≤ x8 → o = (some (.int x7), Z, I, J)) ∧ (¬ x6 ≤ x8 → ((1000 ≤ x8 → o = (some (.int x7), Z, I, J)) ∧ (¬ 1000 ≤ x8 → (∃ (I1 : zI), zE (d + 5) kX9_play 0 [some (.ref 415), some (.ref t1), some (.ref d2), some (.int x4), none, none] [] Z I J (none, Z, I1, J) ∧ (∃ (v2 : Int32), zE (d + 5) kX9_fits 0 [some (.ref 415), some (.ref d2), some (.int x5), none, none] [] Z I1 J (some (.int v2), Z, I1, J) ∧ ((v2 = 0 → (∃ (I3 : zI), zE (d + 5) kX9_advance 0 [some (.ref 415), some (.int (I1 t1 2)), some (.int x3), none] [] Z I1 J (none, Z, I3, J) ∧ zE (d + 6) kX9_countRows 62 [some (.ref 415), some (.ref t1), some (.ref d2), some (.int x3), some (.int x4), some (.int x5), some (.int x6), some (.int (x7 + 0)), some (.int (x8 + 1))] [] Z I3 J o)) ∧ (¬ v2 = 0 → (∃ (I4 : zI), zE (d + 5) kX9_advance 0 [some (.ref 415), some (.int (I1 t1 2)), some (.int x3), none] [] Z I1 J (none, Z, I4, J) ∧ zE (d + 6) kX9_countRows 62 [some (.ref 415), some (.ref t1), some (.ref d2), some (.int x3), some (.int x4), some (.int x5), some (.int x6), some (.int (x7 + 1)), some (.int (x8 + 1))] [] Z I4 J o)))))))))) : zE (d + 6) kX9_countRows 62 [some (.ref 415), some (.ref t1), some (.ref d2), some (.int x3), some (.int x4), some (.int x5), some (.int x6), some (.int x7), some (.int x8)] [] Z I J o := by
  refine ex_step (pc' := 64) dX9_countRows_62 rfl ?_
  refine ex_step (pc' := 66) dX9_countRows_64 rfl ?_
  refine ex_icmp (pc' := 120) dX9_countRows_66 (by decide) (fun c => ?_) (fun c => ?_)
  · have h := h.1 c
    refine ex_step (pc' := 122) dX9_countRows_120 rfl ?_
    rw [h]; exact ex_ret (v := some (.int x7)) ⟨dX9_countRows_122, _, rfl, rfl⟩
  · have h := h.2 c
    refine ex_step (pc' := 71) dX9_countRows_69 rfl ?_
    refine ex_step (pc' := 74) (st' := [.int 1000, .int x8]) dX9_countRows_71 rfl ?_
    refine ex_icmp (pc' := 120) dX9_countRows_74 (by decide) (fun c => ?_) (fun c => ?_)
    · have h := h.1 c
      refine ex_step (pc' := 122) dX9_countRows_120 rfl ?_
      rw [h]; exact ex_ret (v := some (.int x7)) ⟨dX9_countRows_122, _, rfl, rfl⟩
    · have h := h.2 c
      refine ex_step (pc' := 78) dX9_countRows_77 rfl ?_
      refine ex_step (pc' := 79) dX9_countRows_78 rfl ?_
      refine ex_step (pc' := 80) dX9_countRows_79 rfl ?_
      refine ex_step (pc' := 82) dX9_countRows_80 rfl ?_
      obtain ⟨I1, hc, h⟩ := h
      refine ex_callV (as := [.ref t1, .ref d2, .int x4]) (st := []) (ci := 9) dX9_countRows_82 zmX9_play zl_RX9_42 ziX9_play zvX9_play (by decide) (ly_a415 hL) rfl (Nat.le_of_ble_eq_true rfl) (Nat.le_of_ble_eq_true rfl) hc ?_
      refine ex_step (pc' := 87) dX9_countRows_85 rfl ?_
      refine ex_step (pc' := 88) dX9_countRows_87 rfl ?_
      refine ex_step (pc' := 89) dX9_countRows_88 rfl ?_
      refine ex_step (pc' := 91) dX9_countRows_89 rfl ?_
      obtain ⟨v2, hc, h⟩ := h
      refine ex_callV (as := [.ref d2, .int x5]) (st := [.int x7]) (ci := 9) dX9_countRows_91 zmX9_fits zl_RX9_46 ziX9_fits zvX9_fits (by decide) (ly_a415 hL) rfl (Nat.le_of_ble_eq_true rfl) (Nat.le_of_ble_eq_true rfl) hc ?_
      refine ex_if (pc' := 101) dX9_countRows_94 (by decide) (fun c => ?_) (fun c => ?_)
      · have h := h.1 c
        refine ex_step (pc' := 102) (st' := [.int 0, .int x7]) dX9_countRows_101 rfl ?_
        refine ex_step (pc' := 103) dX9_countRows_102 rfl ?_
        refine ex_step (pc' := 105) (ls' := [some (.ref 415), some (.ref t1), some (.ref d2), some (.int x3), some (.int x4), some (.int x5), some (.int x6), some (.int (x7 + 0)), some (.int x8)]) dX9_countRows_103 rfl ?_
        refine ex_step (pc' := 106) dX9_countRows_105 rfl ?_
        refine ex_step (pc' := 107) dX9_countRows_106 rfl ?_
        refine ex_geti dX9_countRows_107 wf_RX9_32 (zTx_o ht1) rfl ?_
        refine ex_step (pc' := 111) dX9_countRows_110 rfl ?_
        obtain ⟨I3, hc, h⟩ := h
        refine ex_callV (as := [.int (I1 t1 2), .int x3]) (st := []) (ci := 9) dX9_countRows_111 zmX9_advance zl_RX9_50 ziX9_advance zvX9_advance (by decide) (ly_a415 hL) rfl (Nat.le_of_ble_eq_true rfl) (Nat.le_of_ble_eq_true rfl) hc ?_
        refine ex_step (pc' := 117) (ls' := [some (.ref 415), some (.ref t1), some (.ref d2), some (.int x3), some (.int x4), some (.int x5), some (.int x6), some (.int (x7 + 0)), some (.int (x8 + 1))]) dX9_countRows_114 rfl ?_
        refine ex_step (pc' := 62) dX9_countRows_117 rfl ?_
        exact h
      · have h := h.2 c
        refine ex_step (pc' := 98) (st' := [.int 1, .int x7]) dX9_countRows_97 rfl ?_
        refine ex_step (pc' := 102) dX9_countRows_98 rfl ?_
        refine ex_step (pc' := 103) dX9_countRows_102 rfl ?_
        refine ex_step (pc' := 105) (ls' := [some (.ref 415), some (.ref t1), some (.ref d2), some (.int x3), some (.int x4), some (.int x5), some (.int x6), some (.int (x7 + 1)), some (.int x8)]) dX9_countRows_103 rfl ?_
        refine ex_step (pc' := 106) dX9_countRows_105 rfl ?_
        refine ex_step (pc' := 107) dX9_countRows_106 rfl ?_
        refine ex_geti dX9_countRows_107 wf_RX9_32 (zTx_o ht1) rfl ?_
        refine ex_step (pc' := 111) dX9_countRows_110 rfl ?_
        obtain ⟨I4, hc, h⟩ := h
        refine ex_callV (as := [.int (I1 t1 2), .int x3]) (st := []) (ci := 9) dX9_countRows_111 zmX9_advance zl_RX9_50 ziX9_advance zvX9_advance (by decide) (ly_a415 hL) rfl (Nat.le_of_ble_eq_true rfl) (Nat.le_of_ble_eq_true rfl) hc ?_
        refine ex_step (pc' := 117) (ls' := [some (.ref 415), some (.ref t1), some (.ref d2), some (.int x3), some (.int x4), some (.int x5), some (.int x6), some (.int (x7 + 1)), some (.int (x8 + 1))]) dX9_countRows_114 rfl ?_
        refine ex_step (pc' := 62) dX9_countRows_117 rfl ?_
        exact h
set_option maxHeartbeats 4000000 in
theorem BX9_play_0 {d : Nat} {Z : zZ} {I : zI} {J : zJ} {o : zO} {t u : Nat} {t1 : Nat} {d2 : Nat} (x3 : Int32) (hL : zLY Z t u) (ht1 : zTx Z t1) (hd2 : zDy Z d2) (h : (∃ (I1 : zI), zE (d + 4) kX0_begin 0 [some (.ref d2), some (.ref t1)] [] Z I J (none, Z, I1, J) ∧ zE (d + 5) kX9_play 8 [some (.ref 415), some (.ref t1), some (.ref d2), some (.int x3), some (.int 0), none] [] Z I1 J o)) : zE (d + 5) kX9_play 0 [some (.ref 415), some (.ref t1), some (.ref d2), some (.int x3), none, none] [] Z I J o := by
  refine ex_step (pc' := 1) dX9_play_0 rfl ?_
  refine ex_step (pc' := 2) dX9_play_1 rfl ?_
  obtain ⟨I1, hc, h⟩ := h
  refine ex_callV (as := [.ref t1]) (st := []) (ci := 0) dX9_play_2 zmX0_begin zl_RX9_54 ziX0_begin zvX0_begin (by decide) (zDy_o hd2) rfl (Nat.le_of_ble_eq_true rfl) (Nat.le_of_ble_eq_true rfl) hc ?_
  refine ex_step (pc' := 6) (st' := [.int 0]) dX9_play_5 rfl ?_
  refine ex_step (pc' := 8) (ls' := [some (.ref 415), some (.ref t1), some (.ref d2), some (.int x3), some (.int 0), none]) dX9_play_6 rfl ?_
  exact h
set_option maxHeartbeats 4000000 in
theorem BX9_play_8 {d : Nat} {Z : zZ} {I : zI} {J : zJ} {o : zO} {t u : Nat} {t1 : Nat} {d2 : Nat} (x3 : Int32) (x4 : Int32) (hL : zLY Z t u) (ht1 : zTx Z t1) (hd2 : zDy Z d2) (h : ((x3 ≤ x4 → o = (none, Z, I, J)) ∧ (¬ x3 ≤ x4 → zE (d + 5) kX9_play 17 [some (.ref 415), some (.ref t1), some (.ref d2), some (.int x3), some (.int x4), some (.int 0)] [] Z I J o))) : zE (d + 5) kX9_play 8 [some (.ref 415), some (.ref t1), some (.ref d2), some (.int x3), some (.int x4), none] [] Z I J o := by
  refine ex_step (pc' := 10) dX9_play_8 rfl ?_
  refine ex_step (pc' := 11) dX9_play_10 rfl ?_
  refine ex_icmp (pc' := 71) dX9_play_11 (by decide) (fun c => ?_) (fun c => ?_)
  · have h := h.1 c
    rw [h]; exact ex_ret (v := none) ⟨dX9_play_71, rfl⟩
  · have h := h.2 c
    refine ex_step (pc' := 15) (st' := [.int 0]) dX9_play_14 rfl ?_
    refine ex_step (pc' := 17) (ls' := [some (.ref 415), some (.ref t1), some (.ref d2), some (.int x3), some (.int x4), some (.int 0)]) dX9_play_15 rfl ?_
    exact h
set_option maxHeartbeats 4000000 in
theorem BX9_play_17 {d : Nat} {Z : zZ} {I : zI} {J : zJ} {o : zO} {t u : Nat} {t1 : Nat} {d2 : Nat} (x3 : Int32) (x4 : Int32) (x5 : Int32) (hL : zLY Z t u) (ht1 : zTx Z t1) (hd2 : zDy Z d2) (h : (((I t1 2) ≤ x5 → zE (d + 5) kX9_play 8 [some (.ref 415), some (.ref t1), some (.ref d2), some (.int x3), some (.int (x4 + 1)), none] [] Z I J o) ∧ (¬ (I t1 2) ≤ x5 → ((x4 < (zat I 419 7 x5) → zE (d + 5) kX9_play 17 [some (.ref 415), some (.ref t1), some (.ref d2), some (.int x3), some (.int x4), some (.int (x5 + 1))] [] Z I J o) ∧ (¬ x4 < (zat I 419 7 x5) → (∃ (I1 : zI), zE (d + 4) kX0_act 0 [some (.ref d2), some (.ref t1), some (.int x5), some (.int (x4 - (zat I 419 7 x5))), none] [] Z I J (none, Z, I1, J) ∧ zE (d + 5) kX9_play 17 [some (.ref 415), some (.ref t1), some (.ref d2), some (.int x3), some (.int x4), some (.int (x5 + 1))] [] Z I1 J o)))))) : zE (d + 5) kX9_play 17 [some (.ref 415), some (.ref t1), some (.ref d2), some (.int x3), some (.int x4), some (.int x5)] [] Z I J o := by
  refine ex_step (pc' := 19) dX9_play_17 rfl ?_
  refine ex_step (pc' := 20) dX9_play_19 rfl ?_
  refine ex_geti dX9_play_20 wf_RX9_32 (zTx_o ht1) rfl ?_
  refine ex_icmp (pc' := 65) dX9_play_23 (by decide) (fun c => ?_) (fun c => ?_)
  · have h := h.1 c
    refine ex_step (pc' := 68) (ls' := [some (.ref 415), some (.ref t1), some (.ref d2), some (.int x3), some (.int (x4 + 1)), some (.int x5)]) dX9_play_65 rfl ?_
    refine ex_step (pc' := 8) dX9_play_68 rfl ?_
    exact ex_less (ls' := [some (.ref 415), some (.ref t1), some (.ref d2), some (.int x3), some (.int (x4 + 1)), none]) ⟨rfl, ⟨rfl, ⟨rfl, ⟨rfl, ⟨rfl, trivial⟩⟩⟩⟩⟩ h
  · have h := h.2 c
    refine ex_step (pc' := 28) dX9_play_26 rfl ?_
    refine ex_step (pc' := 29) dX9_play_28 rfl ?_
    refine ex_getr dX9_play_29 wf_RX9_21 (ly_a415 hL) rfl (ly_r415_4 hL) ?_
    refine ex_step (pc' := 34) dX9_play_32 rfl ?_
    refine ex_callS (as := [.ref 419, .int x5]) (st := [.int x4]) dX9_play_34 zmX11_at zl_RX9_60 zsX11_at rfl (Nat.le_of_ble_eq_true rfl) (Nat.le_of_ble_eq_true rfl) (S_at' (by decide) (ly_a419 hL)) ?_
    refine ex_icmp (pc' := 59) dX9_play_37 (by decide) (fun c => ?_) (fun c => ?_)
    · have h := h.1 c
      refine ex_step (pc' := 62) (ls' := [some (.ref 415), some (.ref t1), some (.ref d2), some (.int x3), some (.int x4), some (.int (x5 + 1))]) dX9_play_59 rfl ?_
      refine ex_step (pc' := 17) dX9_play_62 rfl ?_
      exact h
    · have h := h.2 c
      refine ex_step (pc' := 41) dX9_play_40 rfl ?_
      refine ex_step (pc' := 42) dX9_play_41 rfl ?_
      refine ex_step (pc' := 44) dX9_play_42 rfl ?_
      refine ex_step (pc' := 46) dX9_play_44 rfl ?_
      refine ex_step (pc' := 47) dX9_play_46 rfl ?_
      refine ex_getr dX9_play_47 wf_RX9_21 (ly_a415 hL) rfl (ly_r415_4 hL) ?_
      refine ex_step (pc' := 52) dX9_play_50 rfl ?_
      refine ex_callS (as := [.ref 419, .int x5]) (st := [.int x4, .int x5, .ref t1, .ref d2]) dX9_play_52 zmX11_at zl_RX9_60 zsX11_at rfl (Nat.le_of_ble_eq_true rfl) (Nat.le_of_ble_eq_true rfl) (S_at' (by decide) (ly_a419 hL)) ?_
      refine ex_step (pc' := 56) dX9_play_55 rfl ?_
      obtain ⟨I1, hc, h⟩ := h
      refine ex_callV (as := [.ref t1, .int x5, .int (x4 - (zat I 419 7 x5))]) (st := []) (ci := 0) dX9_play_56 zmX0_act zl_RX9_64 ziX0_act zvX0_act (by decide) (zDy_o hd2) rfl (Nat.le_of_ble_eq_true rfl) (Nat.le_of_ble_eq_true rfl) hc ?_
      refine ex_step (pc' := 62) (ls' := [some (.ref 415), some (.ref t1), some (.ref d2), some (.int x3), some (.int x4), some (.int (x5 + 1))]) dX9_play_59 rfl ?_
      refine ex_step (pc' := 17) dX9_play_62 rfl ?_
      exact h
set_option maxHeartbeats 4000000 in
theorem BX9_fits_0 {d : Nat} {Z : zZ} {I : zI} {J : zJ} {o : zO} {t u : Nat} {d1 : Nat} (x2 : Int32) (hL : zLY Z t u) (hd1 : zDy Z d1) (h : zE (d + 2) kX9_fits 2 [some (.ref 415), some (.ref d1), some (.int x2), some (.int 0), none] [] Z I J o) : zE (d + 2) kX9_fits 0 [some (.ref 415), some (.ref d1), some (.int x2), none, none] [] Z I J o := by
  refine ex_step (pc' := 1) (st' := [.int 0]) dX9_fits_0 rfl ?_
  refine ex_step (pc' := 2) (ls' := [some (.ref 415), some (.ref d1), some (.int x2), some (.int 0), none]) dX9_fits_1 rfl ?_
  exact h
set_option maxHeartbeats 4000000 in
theorem BX9_fits_2 {d : Nat} {Z : zZ} {I : zI} {J : zJ} {o : zO} {t u : Nat} {d1 : Nat} (x2 : Int32) (x3 : Int32) (hL : zLY Z t u) (hd1 : zDy Z d1) (h : ((x2 ≤ x3 → o = (some (.int 1), Z, I, J)) ∧ (¬ x2 ≤ x3 → (∃ (v1 : Int32), zE (d + 1) kX0_countOver 0 [some (.ref d1), some (.int (zat I 416 12 x3)), some (.int (zat I 417 12 x3)), none, none, none, none] [] Z I J (some (.int v1), Z, I, J) ∧ ((v1 ≤ 0 → (((zat I 418 12 x3) = 0 → zE (d + 2) kX9_fits 2 [some (.ref 415), some (.ref d1), some (.int x2), some (.int (x3 + 1)), none] [] Z I J o) ∧ (¬ (zat I 418 12 x3) = 0 → o = (some (.int 0), Z, I, J)))) ∧ (¬ v1 ≤ 0 → (((zat I 418 12 x3) = 0 → o = (some (.int 0), Z, I, J)) ∧ (¬ (zat I 418 12 x3) = 0 → zE (d + 2) kX9_fits 2 [some (.ref 415), some (.ref d1), some (.int x2), some (.int (x3 + 1)), none] [] Z I J o)))))))) : zE (d + 2) kX9_fits 2 [some (.ref 415), some (.ref d1), some (.int x2), some (.int x3), none] [] Z I J o := by
  refine ex_step (pc' := 3) dX9_fits_2 rfl ?_
  refine ex_step (pc' := 4) dX9_fits_3 rfl ?_
  refine ex_icmp (pc' := 66) dX9_fits_4 (by decide) (fun c => ?_) (fun c => ?_)
  · have h := h.1 c
    refine ex_step (pc' := 67) (st' := [.int 1]) dX9_fits_66 rfl ?_
    rw [h]; exact ex_ret (v := some (.int 1)) ⟨dX9_fits_67, _, rfl, rfl⟩
  · have h := h.2 c
    refine ex_step (pc' := 8) dX9_fits_7 rfl ?_
    refine ex_step (pc' := 9) dX9_fits_8 rfl ?_
    refine ex_getr dX9_fits_9 wf_RX9_9 (ly_a415 hL) rfl (ly_r415_1 hL) ?_
    refine ex_step (pc' := 13) dX9_fits_12 rfl ?_
    refine ex_callS (as := [.ref 416, .int x3]) (st := [.ref d1]) dX9_fits_13 zmX11_at zl_RX9_60 zsX11_at rfl (Nat.le_of_ble_eq_true rfl) (Nat.le_of_ble_eq_true rfl) (S_at' (by decide) (ly_a416 hL)) ?_
    refine ex_step (pc' := 17) dX9_fits_16 rfl ?_
    refine ex_getr dX9_fits_17 wf_RX9_15 (ly_a415 hL) rfl (ly_r415_2 hL) ?_
    refine ex_step (pc' := 21) dX9_fits_20 rfl ?_
    refine ex_callS (as := [.ref 417, .int x3]) (st := [.int (zat I 416 12 x3), .ref d1]) dX9_fits_21 zmX11_at zl_RX9_60 zsX11_at rfl (Nat.le_of_ble_eq_true rfl) (Nat.le_of_ble_eq_true rfl) (S_at' (by decide) (ly_a417 hL)) ?_
    obtain ⟨v1, hc, h⟩ := h
    refine ex_callV (as := [.int (zat I 416 12 x3), .int (zat I 417 12 x3)]) (st := []) (ci := 0) dX9_fits_24 zmX0_countOver zl_RX9_68 ziX0_countOver zvX0_countOver (by decide) (zDy_o hd1) rfl (Nat.le_of_ble_eq_true rfl) (Nat.le_of_ble_eq_true rfl) hc ?_
    refine ex_if (pc' := 34) dX9_fits_27 (by decide) (fun c => ?_) (fun c => ?_)
    · have h := h.1 c
      refine ex_step (pc' := 35) (st' := [.int 0]) dX9_fits_34 rfl ?_
      refine ex_step (pc' := 37) (ls' := [some (.ref 415), some (.ref d1), some (.int x2), some (.int x3), some (.int 0)]) dX9_fits_35 rfl ?_
      refine ex_step (pc' := 39) dX9_fits_37 rfl ?_
      refine ex_step (pc' := 40) dX9_fits_39 rfl ?_
      refine ex_getr dX9_fits_40 wf_RX9_18 (ly_a415 hL) rfl (ly_r415_3 hL) ?_
      refine ex_step (pc' := 44) dX9_fits_43 rfl ?_
      refine ex_callS (as := [.ref 418, .int x3]) (st := [.int 0]) dX9_fits_44 zmX11_at zl_RX9_60 zsX11_at rfl (Nat.le_of_ble_eq_true rfl) (Nat.le_of_ble_eq_true rfl) (S_at' (by decide) (ly_a418 hL)) ?_
      refine ex_if (pc' := 54) dX9_fits_47 (by decide) (fun c => ?_) (fun c => ?_)
      · have h := h.1 c
        refine ex_step (pc' := 55) (st' := [.int 0, .int 0]) dX9_fits_54 rfl ?_
        refine ex_icmp (pc' := 60) dX9_fits_55 (by decide) (fun c => ?_) (fun c => ?_)
        · skip
          refine ex_step (pc' := 63) (ls' := [some (.ref 415), some (.ref d1), some (.int x2), some (.int (x3 + 1)), some (.int 0)]) dX9_fits_60 rfl ?_
          refine ex_step (pc' := 2) dX9_fits_63 rfl ?_
          exact ex_less (ls' := [some (.ref 415), some (.ref d1), some (.int x2), some (.int (x3 + 1)), none]) ⟨rfl, ⟨rfl, ⟨rfl, ⟨rfl, trivial⟩⟩⟩⟩ h
        · exact absurd (show (0 : Int32) = 0 from by decide) c
      · have h := h.2 c
        refine ex_step (pc' := 51) (st' := [.int 1, .int 0]) dX9_fits_50 rfl ?_
        refine ex_step (pc' := 55) dX9_fits_51 rfl ?_
        refine ex_icmp (pc' := 60) dX9_fits_55 (by decide) (fun c => ?_) (fun c => ?_)
        · exact absurd (show (0 : Int32) = 1 from c) (by decide)
        · skip
          refine ex_step (pc' := 59) (st' := [.int 0]) dX9_fits_58 rfl ?_
          rw [h]; exact ex_ret (v := some (.int 0)) ⟨dX9_fits_59, _, rfl, rfl⟩
    · have h := h.2 c
      refine ex_step (pc' := 31) (st' := [.int 1]) dX9_fits_30 rfl ?_
      refine ex_step (pc' := 35) dX9_fits_31 rfl ?_
      refine ex_step (pc' := 37) (ls' := [some (.ref 415), some (.ref d1), some (.int x2), some (.int x3), some (.int 1)]) dX9_fits_35 rfl ?_
      refine ex_step (pc' := 39) dX9_fits_37 rfl ?_
      refine ex_step (pc' := 40) dX9_fits_39 rfl ?_
      refine ex_getr dX9_fits_40 wf_RX9_18 (ly_a415 hL) rfl (ly_r415_3 hL) ?_
      refine ex_step (pc' := 44) dX9_fits_43 rfl ?_
      refine ex_callS (as := [.ref 418, .int x3]) (st := [.int 1]) dX9_fits_44 zmX11_at zl_RX9_60 zsX11_at rfl (Nat.le_of_ble_eq_true rfl) (Nat.le_of_ble_eq_true rfl) (S_at' (by decide) (ly_a418 hL)) ?_
      refine ex_if (pc' := 54) dX9_fits_47 (by decide) (fun c => ?_) (fun c => ?_)
      · have h := h.1 c
        refine ex_step (pc' := 55) (st' := [.int 0, .int 1]) dX9_fits_54 rfl ?_
        refine ex_icmp (pc' := 60) dX9_fits_55 (by decide) (fun c => ?_) (fun c => ?_)
        · exact absurd (show (1 : Int32) = 0 from c) (by decide)
        · skip
          refine ex_step (pc' := 59) (st' := [.int 0]) dX9_fits_58 rfl ?_
          rw [h]; exact ex_ret (v := some (.int 0)) ⟨dX9_fits_59, _, rfl, rfl⟩
      · have h := h.2 c
        refine ex_step (pc' := 51) (st' := [.int 1, .int 1]) dX9_fits_50 rfl ?_
        refine ex_step (pc' := 55) dX9_fits_51 rfl ?_
        refine ex_icmp (pc' := 60) dX9_fits_55 (by decide) (fun c => ?_) (fun c => ?_)
        · skip
          refine ex_step (pc' := 63) (ls' := [some (.ref 415), some (.ref d1), some (.int x2), some (.int (x3 + 1)), some (.int 1)]) dX9_fits_60 rfl ?_
          refine ex_step (pc' := 2) dX9_fits_63 rfl ?_
          exact ex_less (ls' := [some (.ref 415), some (.ref d1), some (.int x2), some (.int (x3 + 1)), none]) ⟨rfl, ⟨rfl, ⟨rfl, ⟨rfl, trivial⟩⟩⟩⟩ h
        · exact absurd (show (1 : Int32) = 1 from by decide) c
set_option maxHeartbeats 4000000 in
theorem BX9_advance_0 {d : Nat} {Z : zZ} {I : zI} {J : zJ} {o : zO} {t u : Nat} (x1 : Int32) (x2 : Int32) (hL : zLY Z t u)  (h : zE (d + 1) kX9_advance 2 [some (.ref 415), some (.int x1), some (.int x2), some (.int 0)] [] Z I J o) : zE (d + 1) kX9_advance 0 [some (.ref 415), some (.int x1), some (.int x2), none] [] Z I J o := by
  refine ex_step (pc' := 1) (st' := [.int 0]) dX9_advance_0 rfl ?_
  refine ex_step (pc' := 2) (ls' := [some (.ref 415), some (.int x1), some (.int x2), some (.int 0)]) dX9_advance_1 rfl ?_
  exact h
set_option maxHeartbeats 4000000 in
theorem BX9_advance_2 {d : Nat} {Z : zZ} {I : zI} {J : zJ} {o : zO} {t u : Nat} (x1 : Int32) (x2 : Int32) (x3 : Int32) (hL : zLY Z t u)  (h : ((x1 ≤ x3 → o = (none, Z, I, J)) ∧ (¬ x1 ≤ x3 → ((x2 ≤ (zat I 419 7 x3) → (∀ I1 : zI, I1 = zpt I 419 7 x3 0 → zE (d + 1) kX9_advance 2 [some (.ref 415), some (.int x1), some (.int x2), some (.int (x3 + 1))] [] Z I1 J o)) ∧ (¬ x2 ≤ (zat I 419 7 x3) → (∀ I2 : zI, I2 = zpt I 419 7 x3 ((zat I 419 7 x3) + 1) → o = (none, Z, I2, J))))))) : zE (d + 1) kX9_advance 2 [some (.ref 415), some (.int x1), some (.int x2), some (.int x3)] [] Z I J o := by
  refine ex_step (pc' := 3) dX9_advance_2 rfl ?_
  refine ex_step (pc' := 4) dX9_advance_3 rfl ?_
  refine ex_icmp (pc' := 53) dX9_advance_4 (by decide) (fun c => ?_) (fun c => ?_)
  · have h := h.1 c
    rw [h]; exact ex_ret (v := none) ⟨dX9_advance_53, rfl⟩
  · have h := h.2 c
    refine ex_step (pc' := 8) dX9_advance_7 rfl ?_
    refine ex_getr dX9_advance_8 wf_RX9_21 (ly_a415 hL) rfl (ly_r415_4 hL) ?_
    refine ex_step (pc' := 12) dX9_advance_11 rfl ?_
    refine ex_callS (as := [.ref 419, .int x3]) (st := []) dX9_advance_12 zmX11_at zl_RX9_60 zsX11_at rfl (Nat.le_of_ble_eq_true rfl) (Nat.le_of_ble_eq_true rfl) (S_at' (by decide) (ly_a419 hL)) ?_
    refine ex_step (pc' := 16) dX9_advance_15 rfl ?_
    refine ex_icmp (pc' := 38) dX9_advance_16 (by decide) (fun c => ?_) (fun c => ?_)
    · have h := h.1 c
      refine ex_step (pc' := 39) dX9_advance_38 rfl ?_
      refine ex_getr dX9_advance_39 wf_RX9_21 (ly_a415 hL) rfl (ly_r415_4 hL) ?_
      refine ex_step (pc' := 43) dX9_advance_42 rfl ?_
      refine ex_step (pc' := 44) (st' := [.int 0, .int x3, .ref 419]) dX9_advance_43 rfl ?_
      obtain ⟨I1, eI1⟩ : ∃ q : zI, q = zpt I 419 7 x3 0 := ⟨_, rfl⟩
      have h := h I1 eI1
      refine ex_callS (as := [.ref 419, .int x3, .int 0]) (st := []) dX9_advance_44 zmX11_put zl_RX9_28 zsX11_put rfl (Nat.le_of_ble_eq_true rfl) (Nat.le_of_ble_eq_true rfl) (eI1 ▸ (S_put' (by decide) (ly_a419 hL))) ?_
      refine ex_step (pc' := 50) (ls' := [some (.ref 415), some (.int x1), some (.int x2), some (.int (x3 + 1))]) dX9_advance_47 rfl ?_
      refine ex_step (pc' := 2) dX9_advance_50 rfl ?_
      exact h
    · have h := h.2 c
      refine ex_step (pc' := 20) dX9_advance_19 rfl ?_
      refine ex_getr dX9_advance_20 wf_RX9_21 (ly_a415 hL) rfl (ly_r415_4 hL) ?_
      refine ex_step (pc' := 24) dX9_advance_23 rfl ?_
      refine ex_step (pc' := 25) dX9_advance_24 rfl ?_
      refine ex_getr dX9_advance_25 wf_RX9_21 (ly_a415 hL) rfl (ly_r415_4 hL) ?_
      refine ex_step (pc' := 29) dX9_advance_28 rfl ?_
      refine ex_callS (as := [.ref 419, .int x3]) (st := [.int x3, .ref 419]) dX9_advance_29 zmX11_at zl_RX9_60 zsX11_at rfl (Nat.le_of_ble_eq_true rfl) (Nat.le_of_ble_eq_true rfl) (S_at' (by decide) (ly_a419 hL)) ?_
      refine ex_step (pc' := 33) (st' := [.int 1, .int (zat I 419 7 x3), .int x3, .ref 419]) dX9_advance_32 rfl ?_
      refine ex_step (pc' := 34) dX9_advance_33 rfl ?_
      obtain ⟨I2, eI2⟩ : ∃ q : zI, q = zpt I 419 7 x3 ((zat I 419 7 x3) + 1) := ⟨_, rfl⟩
      have h := h I2 eI2
      refine ex_callS (as := [.ref 419, .int x3, .int ((zat I 419 7 x3) + 1)]) (st := []) dX9_advance_34 zmX11_put zl_RX9_28 zsX11_put rfl (Nat.le_of_ble_eq_true rfl) (Nat.le_of_ble_eq_true rfl) (eI2 ▸ (S_put' (by decide) (ly_a419 hL))) ?_
      rw [h]; exact ex_ret (v := none) ⟨dX9_advance_37, rfl⟩
set_option maxHeartbeats 4000000 in
theorem BX10_prepare_0 {d : Nat} {Z : zZ} {I : zI} {J : zJ} {o : zO} {t u : Nat} {t1 : Nat} (x2 : Int32) (hL : zLY Z t u) (ht1 : zTx Z t1) (h : zE (d + 5) kX10_prepare 12 [some (.ref 407), some (.ref t1), some (.int x2), some (.int (zat I (t1 + 11) 7 x2)), some (.int 1), none, none, none, none] [] Z I J o) : zE (d + 5) kX10_prepare 0 [some (.ref 407), some (.ref t1), some (.int x2), none, none, none, none, none, none] [] Z I J o := by
  refine ex_step (pc' := 1) dX10_prepare_0 rfl ?_
  refine ex_getr dX10_prepare_1 wf_RX10_18 (zTx_o ht1) rfl (zTx_r12 ht1) ?_
  refine ex_step (pc' := 5) dX10_prepare_4 rfl ?_
  refine ex_callS (as := [.ref (t1 + 11), .int x2]) (st := []) dX10_prepare_5 zmX11_at zl_RX10_23 zsX11_at rfl (Nat.le_of_ble_eq_true rfl) (Nat.le_of_ble_eq_true rfl) (S_at' (by decide) (zTx_a11 ht1)) ?_
  refine ex_step (pc' := 9) (ls' := [some (.ref 407), some (.ref t1), some (.int x2), some (.int (zat I (t1 + 11) 7 x2)), none, none, none, none, none]) dX10_prepare_8 rfl ?_
  refine ex_step (pc' := 10) (st' := [.int 1]) dX10_prepare_9 rfl ?_
  refine ex_step (pc' := 12) (ls' := [some (.ref 407), some (.ref t1), some (.int x2), some (.int (zat I (t1 + 11) 7 x2)), some (.int 1), none, none, none, none]) dX10_prepare_10 rfl ?_
  exact h
set_option maxHeartbeats 4000000 in
theorem BX10_prepare_12 {d : Nat} {Z : zZ} {I : zI} {J : zJ} {o : zO} {t u : Nat} {t1 : Nat} (x2 : Int32) (x3 : Int32) (x4 : Int32) (hL : zLY Z t u) (ht1 : zTx Z t1) (h : ((64 ≤ x4 → o = (none, Z, I, J)) ∧ (¬ 64 ≤ x4 → ((((1 : Int32) <<< (x3 &&& 31)) ≤ x4 → o = (none, Z, I, J)) ∧ (¬ ((1 : Int32) <<< (x3 &&& 31)) ≤ x4 → zE (d + 5) kX10_prepare 30 [some (.ref 407), some (.ref t1), some (.int x2), some (.int x3), some (.int x4), some (.int 0), none, none, none] [] Z I J o))))) : zE (d + 5) kX10_prepare 12 [some (.ref 407), some (.ref t1), some (.int x2), some (.int x3), some (.int x4), none, none, none, none] [] Z I J o := by
  refine ex_step (pc' := 14) dX10_prepare_12 rfl ?_
  refine ex_step (pc' := 16) (st' := [.int 64, .int x4]) dX10_prepare_14 rfl ?_
  refine ex_icmp (pc' := 125) dX10_prepare_16 (by decide) (fun c => ?_) (fun c => ?_)
  · have h := h.1 c
    rw [h]; exact ex_ret (v := none) ⟨dX10_prepare_125, rfl⟩
  · have h := h.2 c
    refine ex_step (pc' := 21) dX10_prepare_19 rfl ?_
    refine ex_step (pc' := 22) (st' := [.int 1, .int x4]) dX10_prepare_21 rfl ?_
    refine ex_step (pc' := 23) dX10_prepare_22 rfl ?_
    refine ex_step (pc' := 24) dX10_prepare_23 rfl ?_
    refine ex_icmp (pc' := 125) dX10_prepare_24 (by decide) (fun c => ?_) (fun c => ?_)
    · have h := h.1 c
      rw [h]; exact ex_ret (v := none) ⟨dX10_prepare_125, rfl⟩
    · have h := h.2 c
      refine ex_step (pc' := 28) (st' := [.int 0]) dX10_prepare_27 rfl ?_
      refine ex_step (pc' := 30) (ls' := [some (.ref 407), some (.ref t1), some (.int x2), some (.int x3), some (.int x4), some (.int 0), none, none, none]) dX10_prepare_28 rfl ?_
      exact h
set_option maxHeartbeats 4000000 in
theorem BX10_prepare_30 {d : Nat} {Z : zZ} {I : zI} {J : zJ} {o : zO} {t u : Nat} {t1 : Nat} (x2 : Int32) (x3 : Int32) (x4 : Int32) (x5 : Int32) (hL : zLY Z t u) (ht1 : zTx Z t1) (h : ((x3 ≤ x5 → zE (d + 5) kX10_prepare 12 [some (.ref 407), some (.ref t1), some (.int x2), some (.int x3), some (.int (x4 + 1)), none, none, none, none] [] Z I J o) ∧ (¬ x3 ≤ x5 → (∀ y1 : Int32, y1 = (x4 &&& (((1 : Int32) <<< (x5 &&& 31)) ^^^ (-1))) → ((y1 = x4 → zE (d + 5) kX10_prepare 30 [some (.ref 407), some (.ref t1), some (.int x2), some (.int x3), some (.int x4), some (.int (x5 + 1)), none, none, none] [] Z I J o) ∧ (¬ y1 = x4 → (∀ y2 : Int32, y2 = (zat I (t1 + 12) 42 ((x2 * 6) + x5)) → (∀ y3 : Int32, y3 = (zat I (t1 + 13) 42 ((x2 * 6) + x5)) → (∃ (v4 : Int32), zE (d + 4) kX10_cheapest 0 [some (.ref 407), some (.ref t1), some (.int x2), some (.int y1), some (.int y2), some (.int y3), none] [] Z I J (some (.int v4), Z, I, J) ∧ (∀ I5 : zI, I5 = zpt I 409 384 ((x4 * 6) + x5) v4 → zE (d + 5) kX10_prepare 30 [some (.ref 407), some (.ref t1), some (.int x2), some (.int x3), some (.int x4), some (.int (x5 + 1)), none, none, none] [] Z I5 J o)))))))))) : zE (d + 5) kX10_prepare 30 [some (.ref 407), some (.ref t1), some (.int x2), some (.int x3), some (.int x4), some (.int x5), none, none, none] [] Z I J o := by
  refine ex_step (pc' := 32) dX10_prepare_30 rfl ?_
  refine ex_step (pc' := 33) dX10_prepare_32 rfl ?_
  refine ex_icmp (pc' := 119) dX10_prepare_33 (by decide) (fun c => ?_) (fun c => ?_)
  · have h := h.1 c
    refine ex_step (pc' := 122) (ls' := [some (.ref 407), some (.ref t1), some (.int x2), some (.int x3), some (.int (x4 + 1)), some (.int x5), none, none, none]) dX10_prepare_119 rfl ?_
    refine ex_step (pc' := 12) dX10_prepare_122 rfl ?_
    exact ex_less (ls' := [some (.ref 407), some (.ref t1), some (.int x2), some (.int x3), some (.int (x4 + 1)), none, none, none, none]) ⟨rfl, ⟨rfl, ⟨rfl, ⟨rfl, ⟨rfl, trivial⟩⟩⟩⟩⟩ h
  · have h := h.2 c
    refine ex_step (pc' := 38) dX10_prepare_36 rfl ?_
    refine ex_step (pc' := 39) (st' := [.int 1, .int x4]) dX10_prepare_38 rfl ?_
    refine ex_step (pc' := 41) dX10_prepare_39 rfl ?_
    refine ex_step (pc' := 42) dX10_prepare_41 rfl ?_
    refine ex_step (pc' := 43) (st' := [.int (-1), .int ((1 : Int32) <<< (x5 &&& 31)), .int x4]) dX10_prepare_42 rfl ?_
    refine ex_step (pc' := 44) dX10_prepare_43 rfl ?_
    refine ex_step (pc' := 45) dX10_prepare_44 rfl ?_
    refine ex_topi (fun y1 ey1 => ?_)
    have h := h y1 ey1
    refine ex_step (pc' := 47) (ls' := [some (.ref 407), some (.ref t1), some (.int x2), some (.int x3), some (.int x4), some (.int x5), some (.int y1), none, none]) dX10_prepare_45 rfl ?_
    refine ex_step (pc' := 49) dX10_prepare_47 rfl ?_
    refine ex_step (pc' := 51) dX10_prepare_49 rfl ?_
    refine ex_icmp (pc' := 113) dX10_prepare_51 (by decide) (fun c => ?_) (fun c => ?_)
    · have h := h.1 c
      refine ex_step (pc' := 116) (ls' := [some (.ref 407), some (.ref t1), some (.int x2), some (.int x3), some (.int x4), some (.int (x5 + 1)), some (.int y1), none, none]) dX10_prepare_113 rfl ?_
      refine ex_step (pc' := 30) dX10_prepare_116 rfl ?_
      exact ex_less (ls' := [some (.ref 407), some (.ref t1), some (.int x2), some (.int x3), some (.int x4), some (.int (x5 + 1)), none, none, none]) ⟨rfl, ⟨rfl, ⟨rfl, ⟨rfl, ⟨rfl, ⟨rfl, trivial⟩⟩⟩⟩⟩⟩ h
    · have h := h.2 c
      refine ex_step (pc' := 55) dX10_prepare_54 rfl ?_
      refine ex_getr dX10_prepare_55 wf_RX10_27 (zTx_o ht1) rfl (zTx_r13 ht1) ?_
      refine ex_step (pc' := 59) dX10_prepare_58 rfl ?_
      refine ex_step (pc' := 61) (st' := [.int 6, .int x2, .ref (t1 + 12)]) dX10_prepare_59 rfl ?_
      refine ex_step (pc' := 62) dX10_prepare_61 rfl ?_
      refine ex_step (pc' := 64) dX10_prepare_62 rfl ?_
      refine ex_step (pc' := 65) dX10_prepare_64 rfl ?_
      refine ex_callS (as := [.ref (t1 + 12), .int ((x2 * 6) + x5)]) (st := []) dX10_prepare_65 zmX11_at zl_RX10_23 zsX11_at rfl (Nat.le_of_ble_eq_true rfl) (Nat.le_of_ble_eq_true rfl) (S_at' (by decide) (zTx_a12 ht1)) ?_
      refine ex_topi (fun y2 ey2 => ?_)
      have h := h y2 ey2
      refine ex_step (pc' := 70) (ls' := [some (.ref 407), some (.ref t1), some (.int x2), some (.int x3), some (.int x4), some (.int x5), some (.int y1), some (.int y2), none]) dX10_prepare_68 rfl ?_
      refine ex_step (pc' := 71) dX10_prepare_70 rfl ?_
      refine ex_getr dX10_prepare_71 wf_RX10_30 (zTx_o ht1) rfl (zTx_r14 ht1) ?_
      refine ex_step (pc' := 75) dX10_prepare_74 rfl ?_
      refine ex_step (pc' := 77) (st' := [.int 6, .int x2, .ref (t1 + 13)]) dX10_prepare_75 rfl ?_
      refine ex_step (pc' := 78) dX10_prepare_77 rfl ?_
      refine ex_step (pc' := 80) dX10_prepare_78 rfl ?_
      refine ex_step (pc' := 81) dX10_prepare_80 rfl ?_
      refine ex_callS (as := [.ref (t1 + 13), .int ((x2 * 6) + x5)]) (st := []) dX10_prepare_81 zmX11_at zl_RX10_23 zsX11_at rfl (Nat.le_of_ble_eq_true rfl) (Nat.le_of_ble_eq_true rfl) (S_at' (by decide) (zTx_a13 ht1)) ?_
      refine ex_topi (fun y3 ey3 => ?_)
      have h := h y3 ey3
      refine ex_step (pc' := 86) (ls' := [some (.ref 407), some (.ref t1), some (.int x2), some (.int x3), some (.int x4), some (.int x5), some (.int y1), some (.int y2), some (.int y3)]) dX10_prepare_84 rfl ?_
      refine ex_step (pc' := 87) dX10_prepare_86 rfl ?_
      refine ex_getr dX10_prepare_87 wf_RX10_15 (ly_a407 hL) rfl (ly_r407_1 hL) ?_
      refine ex_step (pc' := 92) dX10_prepare_90 rfl ?_
      refine ex_step (pc' := 94) (st' := [.int 6, .int x4, .ref 409]) dX10_prepare_92 rfl ?_
      refine ex_step (pc' := 95) dX10_prepare_94 rfl ?_
      refine ex_step (pc' := 97) dX10_prepare_95 rfl ?_
      refine ex_step (pc' := 98) dX10_prepare_97 rfl ?_
      refine ex_step (pc' := 99) dX10_prepare_98 rfl ?_
      refine ex_step (pc' := 100) dX10_prepare_99 rfl ?_
      refine ex_step (pc' := 101) dX10_prepare_100 rfl ?_
      refine ex_step (pc' := 103) dX10_prepare_101 rfl ?_
      refine ex_step (pc' := 105) dX10_prepare_103 rfl ?_
      refine ex_step (pc' := 107) dX10_prepare_105 rfl ?_
      obtain ⟨v4, hc, h⟩ := h
      refine ex_callV (as := [.ref t1, .int x2, .int y1, .int y2, .int y3]) (st := [.int ((x4 * 6) + x5), .ref 409]) (ci := 10) dX10_prepare_107 zmX10_cheapest zl_RX10_33 ziX10_cheapest zvX10_cheapest (by decide) (ly_a407 hL) rfl (Nat.le_of_ble_eq_true rfl) (Nat.le_of_ble_eq_true rfl) hc ?_
      obtain ⟨I5, eI5⟩ : ∃ q : zI, q = zpt I 409 384 ((x4 * 6) + x5) v4 := ⟨_, rfl⟩
      have h := h I5 eI5
      refine ex_callS (as := [.ref 409, .int ((x4 * 6) + x5), .int v4]) (st := []) dX10_prepare_110 zmX11_put zl_RX10_37 zsX11_put rfl (Nat.le_of_ble_eq_true rfl) (Nat.le_of_ble_eq_true rfl) (eI5 ▸ (S_put' (by decide) (ly_a409 hL))) ?_
      refine ex_step (pc' := 116) (ls' := [some (.ref 407), some (.ref t1), some (.int x2), some (.int x3), some (.int x4), some (.int (x5 + 1)), some (.int y1), some (.int y2), some (.int y3)]) dX10_prepare_113 rfl ?_
      refine ex_step (pc' := 30) dX10_prepare_116 rfl ?_
      exact ex_less (ls' := [some (.ref 407), some (.ref t1), some (.int x2), some (.int x3), some (.int x4), some (.int (x5 + 1)), none, none, none]) ⟨rfl, ⟨rfl, ⟨rfl, ⟨rfl, ⟨rfl, ⟨rfl, trivial⟩⟩⟩⟩⟩⟩ h
set_option maxHeartbeats 4000000 in
theorem BX10_nextOf_0 {d : Nat} {Z : zZ} {I : zI} {J : zJ} {o : zO} {t u : Nat} {t1 : Nat} (x2 : Int32) (x3 : Int32) (x4 : Int32) (x5 : Int32) (hL : zLY Z t u) (ht1 : zTx Z t1) (h : zE (d + 3) kX10_nextOf 10 [some (.ref 407), some (.ref t1), some (.int x2), some (.int x3), some (.int x4), some (.int x5), some (.int (-1)), some (.int 1000000), some (.int 0), none] [] Z I J o) : zE (d + 3) kX10_nextOf 0 [some (.ref 407), some (.ref t1), some (.int x2), some (.int x3), some (.int x4), some (.int x5), none, none, none, none] [] Z I J o := by
  refine ex_step (pc' := 1) (st' := [.int (-1)]) dX10_nextOf_0 rfl ?_
  refine ex_step (pc' := 3) (ls' := [some (.ref 407), some (.ref t1), some (.int x2), some (.int x3), some (.int x4), some (.int x5), some (.int (-1)), none, none, none]) dX10_nextOf_1 rfl ?_
  refine ex_ldc dX10_nextOf_3 zk_RX10_41 ?_
  refine ex_step (pc' := 7) (ls' := [some (.ref 407), some (.ref t1), some (.int x2), some (.int x3), some (.int x4), some (.int x5), some (.int (-1)), some (.int 1000000), none, none]) dX10_nextOf_5 rfl ?_
  refine ex_step (pc' := 8) (st' := [.int 0]) dX10_nextOf_7 rfl ?_
  refine ex_step (pc' := 10) (ls' := [some (.ref 407), some (.ref t1), some (.int x2), some (.int x3), some (.int x4), some (.int x5), some (.int (-1)), some (.int 1000000), some (.int 0), none]) dX10_nextOf_8 rfl ?_
  exact h
set_option maxHeartbeats 4000000 in
theorem BX10_nextOf_10 {d : Nat} {Z : zZ} {I : zI} {J : zJ} {o : zO} {t u : Nat} {t1 : Nat} (x2 : Int32) (x3 : Int32) (x4 : Int32) (x5 : Int32) (x6 : Int32) (x7 : Int32) (x8 : Int32) (hL : zLY Z t u) (ht1 : zTx Z t1) (h : ((6 ≤ x8 → o = (some (.int x6), Z, I, J)) ∧ (¬ 6 ≤ x8 → (∃ (v1 : Int32), zE (d + 2) kX6_errandFrom 0 [some (.ref t1), some (.int x2), some (.int x8), some (.int x4), some (.int x5), none] [] Z I J (some (.int v1), Z, I, J) ∧ (∀ y2 : Int32, y2 = (v1 + (zat I 409 384 ((x3 * 6) + x8))) → ((((x3 >>> (x8 &&& 31)) &&& 1) = 0 → zE (d + 3) kX10_nextOf 10 [some (.ref 407), some (.ref t1), some (.int x2), some (.int x3), some (.int x4), some (.int x5), some (.int x6), some (.int x7), some (.int (x8 + 1)), none] [] Z I J o) ∧ (¬ ((x3 >>> (x8 &&& 31)) &&& 1) = 0 → ((x7 ≤ y2 → zE (d + 3) kX10_nextOf 10 [some (.ref 407), some (.ref t1), some (.int x2), some (.int x3), some (.int x4), some (.int x5), some (.int x6), some (.int x7), some (.int (x8 + 1)), none] [] Z I J o) ∧ (¬ x7 ≤ y2 → zE (d + 3) kX10_nextOf 10 [some (.ref 407), some (.ref t1), some (.int x2), some (.int x3), some (.int x4), some (.int x5), some (.int x8), some (.int y2), some (.int (x8 + 1)), none] [] Z I J o))))))))) : zE (d + 3) kX10_nextOf 10 [some (.ref 407), some (.ref t1), some (.int x2), some (.int x3), some (.int x4), some (.int x5), some (.int x6), some (.int x7), some (.int x8), none] [] Z I J o := by
  refine ex_step (pc' := 12) dX10_nextOf_10 rfl ?_
  refine ex_step (pc' := 14) (st' := [.int 6, .int x8]) dX10_nextOf_12 rfl ?_
  refine ex_icmp (pc' := 75) dX10_nextOf_14 (by decide) (fun c => ?_) (fun c => ?_)
  · have h := h.1 c
    refine ex_step (pc' := 77) dX10_nextOf_75 rfl ?_
    rw [h]; exact ex_ret (v := some (.int x6)) ⟨dX10_nextOf_77, _, rfl, rfl⟩
  · have h := h.2 c
    refine ex_step (pc' := 18) dX10_nextOf_17 rfl ?_
    refine ex_step (pc' := 19) dX10_nextOf_18 rfl ?_
    refine ex_step (pc' := 21) dX10_nextOf_19 rfl ?_
    refine ex_step (pc' := 23) dX10_nextOf_21 rfl ?_
    refine ex_step (pc' := 25) dX10_nextOf_23 rfl ?_
    obtain ⟨v1, hc, h⟩ := h
    refine ex_callV (as := [.int x2, .int x8, .int x4, .int x5]) (st := []) (ci := 6) dX10_nextOf_25 zmX6_errandFrom zl_RX10_42 ziX6_errandFrom zvX6_errandFrom (by decide) (zTx_o ht1) rfl (Nat.le_of_ble_eq_true rfl) (Nat.le_of_ble_eq_true rfl) hc ?_
    refine ex_step (pc' := 29) dX10_nextOf_28 rfl ?_
    refine ex_getr dX10_nextOf_29 wf_RX10_15 (ly_a407 hL) rfl (ly_r407_1 hL) ?_
    refine ex_step (pc' := 33) dX10_nextOf_32 rfl ?_
    refine ex_step (pc' := 35) (st' := [.int 6, .int x3, .ref 409, .int v1]) dX10_nextOf_33 rfl ?_
    refine ex_step (pc' := 36) dX10_nextOf_35 rfl ?_
    refine ex_step (pc' := 38) dX10_nextOf_36 rfl ?_
    refine ex_step (pc' := 39) dX10_nextOf_38 rfl ?_
    refine ex_callS (as := [.ref 409, .int ((x3 * 6) + x8)]) (st := [.int v1]) dX10_nextOf_39 zmX11_at zl_RX10_23 zsX11_at rfl (Nat.le_of_ble_eq_true rfl) (Nat.le_of_ble_eq_true rfl) (S_at' (by decide) (ly_a409 hL)) ?_
    refine ex_step (pc' := 43) dX10_nextOf_42 rfl ?_
    refine ex_topi (fun y2 ey2 => ?_)
    have h := h y2 ey2
    refine ex_step (pc' := 45) (ls' := [some (.ref 407), some (.ref t1), some (.int x2), some (.int x3), some (.int x4), some (.int x5), some (.int x6), some (.int x7), some (.int x8), some (.int y2)]) dX10_nextOf_43 rfl ?_
    refine ex_step (pc' := 46) dX10_nextOf_45 rfl ?_
    refine ex_step (pc' := 48) dX10_nextOf_46 rfl ?_
    refine ex_step (pc' := 49) dX10_nextOf_48 rfl ?_
    refine ex_step (pc' := 50) (st' := [.int 1, .int (x3 >>> (x8 &&& 31))]) dX10_nextOf_49 rfl ?_
    refine ex_step (pc' := 51) dX10_nextOf_50 rfl ?_
    refine ex_if (pc' := 69) dX10_nextOf_51 (by decide) (fun c => ?_) (fun c => ?_)
    · have h := h.1 c
      refine ex_step (pc' := 72) (ls' := [some (.ref 407), some (.ref t1), some (.int x2), some (.int x3), some (.int x4), some (.int x5), some (.int x6), some (.int x7), some (.int (x8 + 1)), some (.int y2)]) dX10_nextOf_69 rfl ?_
      refine ex_step (pc' := 10) dX10_nextOf_72 rfl ?_
      exact ex_less (ls' := [some (.ref 407), some (.ref t1), some (.int x2), some (.int x3), some (.int x4), some (.int x5), some (.int x6), some (.int x7), some (.int (x8 + 1)), none]) ⟨rfl, ⟨rfl, ⟨rfl, ⟨rfl, ⟨rfl, ⟨rfl, ⟨rfl, ⟨rfl, ⟨rfl, trivial⟩⟩⟩⟩⟩⟩⟩⟩⟩ h
    · have h := h.2 c
      refine ex_step (pc' := 56) dX10_nextOf_54 rfl ?_
      refine ex_step (pc' := 58) dX10_nextOf_56 rfl ?_
      refine ex_icmp (pc' := 69) dX10_nextOf_58 (by decide) (fun c => ?_) (fun c => ?_)
      · have h := h.1 c
        refine ex_step (pc' := 72) (ls' := [some (.ref 407), some (.ref t1), some (.int x2), some (.int x3), some (.int x4), some (.int x5), some (.int x6), some (.int x7), some (.int (x8 + 1)), some (.int y2)]) dX10_nextOf_69 rfl ?_
        refine ex_step (pc' := 10) dX10_nextOf_72 rfl ?_
        exact ex_less (ls' := [some (.ref 407), some (.ref t1), some (.int x2), some (.int x3), some (.int x4), some (.int x5), some (.int x6), some (.int x7), some (.int (x8 + 1)), none]) ⟨rfl, ⟨rfl, ⟨rfl, ⟨rfl, ⟨rfl, ⟨rfl, ⟨rfl, ⟨rfl, ⟨rfl, trivial⟩⟩⟩⟩⟩⟩⟩⟩⟩ h
      · have h := h.2 c
        refine ex_step (pc' := 63) dX10_nextOf_61 rfl ?_
        refine ex_step (pc' := 65) (ls' := [some (.ref 407), some (.ref t1), some (.int x2), some (.int x3), some (.int x4), some (.int x5), some (.int x8), some (.int x7), some (.int x8), some (.int y2)]) dX10_nextOf_63 rfl ?_
        refine ex_step (pc' := 67) dX10_nextOf_65 rfl ?_
        refine ex_step (pc' := 69) (ls' := [some (.ref 407), some (.ref t1), some (.int x2), some (.int x3), some (.int x4), some (.int x5), some (.int x8), some (.int y2), some (.int x8), some (.int y2)]) dX10_nextOf_67 rfl ?_
        refine ex_step (pc' := 72) (ls' := [some (.ref 407), some (.ref t1), some (.int x2), some (.int x3), some (.int x4), some (.int x5), some (.int x8), some (.int y2), some (.int (x8 + 1)), some (.int y2)]) dX10_nextOf_69 rfl ?_
        refine ex_step (pc' := 10) dX10_nextOf_72 rfl ?_
        exact ex_less (ls' := [some (.ref 407), some (.ref t1), some (.int x2), some (.int x3), some (.int x4), some (.int x5), some (.int x8), some (.int y2), some (.int (x8 + 1)), none]) ⟨rfl, ⟨rfl, ⟨rfl, ⟨rfl, ⟨rfl, ⟨rfl, ⟨rfl, ⟨rfl, ⟨rfl, trivial⟩⟩⟩⟩⟩⟩⟩⟩⟩ h
set_option maxHeartbeats 4000000 in
theorem BX10_cheapest_0 {d : Nat} {Z : zZ} {I : zI} {J : zJ} {o : zO} {t u : Nat} {t1 : Nat} (x2 : Int32) (x3 : Int32) (x4 : Int32) (x5 : Int32) (hL : zLY Z t u) (ht1 : zTx Z t1) (h : (∃ (v1 : Int32), zE (d + 3) kX10_nextOf 0 [some (.ref 407), some (.ref t1), some (.int x2), some (.int x3), some (.int x4), some (.int x5), none, none, none, none] [] Z I J (some (.int v1), Z, I, J) ∧ ((¬ v1 = (-1) → (∃ (v2 : Int32), zE (d + 3) kX6_errandFrom 0 [some (.ref t1), some (.int x2), some (.int v1), some (.int x4), some (.int x5), none] [] Z I J (some (.int v2), Z, I, J) ∧ o = (some (.int (v2 + (zat I 409 384 ((x3 * 6) + v1)))), Z, I, J))) ∧ (v1 = (-1) → o = (some (.int 0), Z, I, J))))) : zE (d + 4) kX10_cheapest 0 [some (.ref 407), some (.ref t1), some (.int x2), some (.int x3), some (.int x4), some (.int x5), none] [] Z I J o := by
  refine ex_step (pc' := 1) dX10_cheapest_0 rfl ?_
  refine ex_step (pc' := 2) dX10_cheapest_1 rfl ?_
  refine ex_step (pc' := 3) dX10_cheapest_2 rfl ?_
  refine ex_step (pc' := 4) dX10_cheapest_3 rfl ?_
  refine ex_step (pc' := 6) dX10_cheapest_4 rfl ?_
  refine ex_step (pc' := 8) dX10_cheapest_6 rfl ?_
  obtain ⟨v1, hc, h⟩ := h
  refine ex_callV (as := [.ref t1, .int x2, .int x3, .int x4, .int x5]) (st := []) (ci := 10) dX10_cheapest_8 zmX10_nextOf zl_RX10_46 ziX10_nextOf zvX10_nextOf (by decide) (ly_a407 hL) rfl (Nat.le_of_ble_eq_true rfl) (Nat.le_of_ble_eq_true rfl) hc ?_
  refine ex_step (pc' := 13) (ls' := [some (.ref 407), some (.ref t1), some (.int x2), some (.int x3), some (.int x4), some (.int x5), some (.int v1)]) dX10_cheapest_11 rfl ?_
  refine ex_step (pc' := 15) dX10_cheapest_13 rfl ?_
  refine ex_step (pc' := 16) (st' := [.int (-1), .int v1]) dX10_cheapest_15 rfl ?_
  refine ex_icmp (pc' := 23) dX10_cheapest_16 (by decide) (fun c => ?_) (fun c => ?_)
  · have h := h.1 c
    refine ex_step (pc' := 24) dX10_cheapest_23 rfl ?_
    refine ex_step (pc' := 25) dX10_cheapest_24 rfl ?_
    refine ex_step (pc' := 27) dX10_cheapest_25 rfl ?_
    refine ex_step (pc' := 29) dX10_cheapest_27 rfl ?_
    refine ex_step (pc' := 31) dX10_cheapest_29 rfl ?_
    obtain ⟨v2, hc, h⟩ := h
    refine ex_callV (as := [.int x2, .int v1, .int x4, .int x5]) (st := []) (ci := 6) dX10_cheapest_31 zmX6_errandFrom zl_RX10_42 ziX6_errandFrom zvX6_errandFrom (by decide) (zTx_o ht1) rfl (Nat.le_of_ble_eq_true rfl) (Nat.le_of_ble_eq_true rfl) hc ?_
    refine ex_step (pc' := 35) dX10_cheapest_34 rfl ?_
    refine ex_getr dX10_cheapest_35 wf_RX10_15 (ly_a407 hL) rfl (ly_r407_1 hL) ?_
    refine ex_step (pc' := 39) dX10_cheapest_38 rfl ?_
    refine ex_step (pc' := 41) (st' := [.int 6, .int x3, .ref 409, .int v2]) dX10_cheapest_39 rfl ?_
    refine ex_step (pc' := 42) dX10_cheapest_41 rfl ?_
    refine ex_step (pc' := 44) dX10_cheapest_42 rfl ?_
    refine ex_step (pc' := 45) dX10_cheapest_44 rfl ?_
    refine ex_callS (as := [.ref 409, .int ((x3 * 6) + v1)]) (st := [.int v2]) dX10_cheapest_45 zmX11_at zl_RX10_23 zsX11_at rfl (Nat.le_of_ble_eq_true rfl) (Nat.le_of_ble_eq_true rfl) (S_at' (by decide) (ly_a409 hL)) ?_
    refine ex_step (pc' := 49) dX10_cheapest_48 rfl ?_
    rw [h]; exact ex_ret (v := some (.int (v2 + (zat I 409 384 ((x3 * 6) + v1))))) ⟨dX10_cheapest_49, _, rfl, rfl⟩
  · have h := h.2 (Classical.not_not.mp c)
    refine ex_step (pc' := 20) (st' := [.int 0]) dX10_cheapest_19 rfl ?_
    refine ex_step (pc' := 49) dX10_cheapest_20 rfl ?_
    rw [h]; exact ex_ret (v := some (.int 0)) ⟨dX10_cheapest_49, _, rfl, rfl⟩
set_option maxHeartbeats 4000000 in
theorem BX10_fewest_0 {d : Nat} {Z : zZ} {I : zI} {J : zJ} {o : zO} {t u : Nat} {t1 : Nat} (x2 : Int32) (x3 : Int32) (x4 : Int32) (hL : zLY Z t u) (ht1 : zTx Z t1) (h : (∃ (v1 : Int32), zE (d + 4) kX10_cheapest 0 [some (.ref 407), some (.ref t1), some (.int x2), some (.int (((1 : Int32) <<< ((zat I (t1 + 11) 7 x2) &&& 31)) - 1)), some (.int x3), some (.int x4), none] [] Z I J (some (.int v1), Z, I, J) ∧ o = (some (.int v1), Z, I, J))) : zE (d + 5) kX10_fewest 0 [some (.ref 407), some (.ref t1), some (.int x2), some (.int x3), some (.int x4)] [] Z I J o := by
  refine ex_step (pc' := 1) dX10_fewest_0 rfl ?_
  refine ex_step (pc' := 2) dX10_fewest_1 rfl ?_
  refine ex_step (pc' := 3) dX10_fewest_2 rfl ?_
  refine ex_step (pc' := 4) (st' := [.int 1, .int x2, .ref t1, .ref 407]) dX10_fewest_3 rfl ?_
  refine ex_step (pc' := 5) dX10_fewest_4 rfl ?_
  refine ex_getr dX10_fewest_5 wf_RX10_18 (zTx_o ht1) rfl (zTx_r12 ht1) ?_
  refine ex_step (pc' := 9) dX10_fewest_8 rfl ?_
  refine ex_callS (as := [.ref (t1 + 11), .int x2]) (st := [.int 1, .int x2, .ref t1, .ref 407]) dX10_fewest_9 zmX11_at zl_RX10_23 zsX11_at rfl (Nat.le_of_ble_eq_true rfl) (Nat.le_of_ble_eq_true rfl) (S_at' (by decide) (zTx_a11 ht1)) ?_
  refine ex_step (pc' := 13) dX10_fewest_12 rfl ?_
  refine ex_step (pc' := 14) (st' := [.int 1, .int ((1 : Int32) <<< ((zat I (t1 + 11) 7 x2) &&& 31)), .int x2, .ref t1, .ref 407]) dX10_fewest_13 rfl ?_
  refine ex_step (pc' := 15) dX10_fewest_14 rfl ?_
  refine ex_step (pc' := 16) dX10_fewest_15 rfl ?_
  refine ex_step (pc' := 18) dX10_fewest_16 rfl ?_
  obtain ⟨v1, hc, h⟩ := h
  refine ex_callV (as := [.ref t1, .int x2, .int (((1 : Int32) <<< ((zat I (t1 + 11) 7 x2) &&& 31)) - 1), .int x3, .int x4]) (st := []) (ci := 10) dX10_fewest_18 zmX10_cheapest zl_RX10_33 ziX10_cheapest zvX10_cheapest (by decide) (ly_a407 hL) rfl (Nat.le_of_ble_eq_true rfl) (Nat.le_of_ble_eq_true rfl) hc ?_
  rw [h]; exact ex_ret (v := some (.int v1)) ⟨dX10_fewest_21, _, rfl, rfl⟩
set_option maxHeartbeats 4000000 in
theorem BX10_findOrder_0 {d : Nat} {Z : zZ} {I : zI} {J : zJ} {o : zO} {t u : Nat} {t1 : Nat} (x2 : Int32) (hL : zLY Z t u) (ht1 : zTx Z t1) (h : (∀ y1 : Int32, y1 = (((1 : Int32) <<< ((zat I (t1 + 11) 7 x2) &&& 31)) - 1) → zE (d + 4) kX10_findOrder 36 [some (.ref 407), some (.ref t1), some (.int x2), some (.int (zat I (t1 + 6) 7 x2)), some (.int (zat I (t1 + 7) 7 x2)), some (.int y1), some (.int 0), none] [] Z I J o)) : zE (d + 4) kX10_findOrder 0 [some (.ref 407), some (.ref t1), some (.int x2), none, none, none, none, none] [] Z I J o := by
  refine ex_step (pc' := 1) dX10_findOrder_0 rfl ?_
  refine ex_getr dX10_findOrder_1 wf_RX10_49 (zTx_o ht1) rfl (zTx_r7 ht1) ?_
  refine ex_step (pc' := 5) dX10_findOrder_4 rfl ?_
  refine ex_callS (as := [.ref (t1 + 6), .int x2]) (st := []) dX10_findOrder_5 zmX11_at zl_RX10_23 zsX11_at rfl (Nat.le_of_ble_eq_true rfl) (Nat.le_of_ble_eq_true rfl) (S_at' (by decide) (zTx_a6 ht1)) ?_
  refine ex_step (pc' := 9) (ls' := [some (.ref 407), some (.ref t1), some (.int x2), some (.int (zat I (t1 + 6) 7 x2)), none, none, none, none]) dX10_findOrder_8 rfl ?_
  refine ex_step (pc' := 10) dX10_findOrder_9 rfl ?_
  refine ex_getr dX10_findOrder_10 wf_RX10_52 (zTx_o ht1) rfl (zTx_r8 ht1) ?_
  refine ex_step (pc' := 14) dX10_findOrder_13 rfl ?_
  refine ex_callS (as := [.ref (t1 + 7), .int x2]) (st := []) dX10_findOrder_14 zmX11_at zl_RX10_23 zsX11_at rfl (Nat.le_of_ble_eq_true rfl) (Nat.le_of_ble_eq_true rfl) (S_at' (by decide) (zTx_a7 ht1)) ?_
  refine ex_step (pc' := 19) (ls' := [some (.ref 407), some (.ref t1), some (.int x2), some (.int (zat I (t1 + 6) 7 x2)), some (.int (zat I (t1 + 7) 7 x2)), none, none, none]) dX10_findOrder_17 rfl ?_
  refine ex_step (pc' := 20) (st' := [.int 1]) dX10_findOrder_19 rfl ?_
  refine ex_step (pc' := 21) dX10_findOrder_20 rfl ?_
  refine ex_getr dX10_findOrder_21 wf_RX10_18 (zTx_o ht1) rfl (zTx_r12 ht1) ?_
  refine ex_step (pc' := 25) dX10_findOrder_24 rfl ?_
  refine ex_callS (as := [.ref (t1 + 11), .int x2]) (st := [.int 1]) dX10_findOrder_25 zmX11_at zl_RX10_23 zsX11_at rfl (Nat.le_of_ble_eq_true rfl) (Nat.le_of_ble_eq_true rfl) (S_at' (by decide) (zTx_a11 ht1)) ?_
  refine ex_step (pc' := 29) dX10_findOrder_28 rfl ?_
  refine ex_step (pc' := 30) (st' := [.int 1, .int ((1 : Int32) <<< ((zat I (t1 + 11) 7 x2) &&& 31))]) dX10_findOrder_29 rfl ?_
  refine ex_step (pc' := 31) dX10_findOrder_30 rfl ?_
  refine ex_topi (fun y1 ey1 => ?_)
  have h := h y1 ey1
  refine ex_step (pc' := 33) (ls' := [some (.ref 407), some (.ref t1), some (.int x2), some (.int (zat I (t1 + 6) 7 x2)), some (.int (zat I (t1 + 7) 7 x2)), some (.int y1), none, none]) dX10_findOrder_31 rfl ?_
  refine ex_step (pc' := 34) (st' := [.int 0]) dX10_findOrder_33 rfl ?_
  refine ex_step (pc' := 36) (ls' := [some (.ref 407), some (.ref t1), some (.int x2), some (.int (zat I (t1 + 6) 7 x2)), some (.int (zat I (t1 + 7) 7 x2)), some (.int y1), some (.int 0), none]) dX10_findOrder_34 rfl ?_
  exact h
set_option maxHeartbeats 4000000 in
theorem BX10_findOrder_36 {d : Nat} {Z : zZ} {I : zI} {J : zJ} {o : zO} {t u : Nat} {t1 : Nat} (x2 : Int32) (x3 : Int32) (x4 : Int32) (x5 : Int32) (x6 : Int32) (hL : zLY Z t u) (ht1 : zTx Z t1) (h : ((6 ≤ x6 → o = (none, Z, I, J)) ∧ (¬ 6 ≤ x6 → ((x5 = 0 → o = (none, Z, I, J)) ∧ (¬ x5 = 0 → (∃ (v1 : Int32), zE (d + 3) kX10_nextOf 0 [some (.ref 407), some (.ref t1), some (.int x2), some (.int x5), some (.int x3), some (.int x4), none, none, none, none] [] Z I J (some (.int v1), Z, I, J) ∧ (∀ I2 : zI, I2 = zpt I 408 6 x6 v1 → (∀ y3 : Int32, y3 = (x5 &&& (((1 : Int32) <<< (v1 &&& 31)) ^^^ (-1))) → (∀ y4 : Int32, y4 = (zat I2 (t1 + 12) 42 ((x2 * 6) + v1)) → (∀ y5 : Int32, y5 = (zat I2 (t1 + 13) 42 ((x2 * 6) + v1)) → zE (d + 4) kX10_findOrder 36 [some (.ref 407), some (.ref t1), some (.int x2), some (.int y4), some (.int y5), some (.int y3), some (.int (x6 + 1)), none] [] Z I2 J o)))))))))) : zE (d + 4) kX10_findOrder 36 [some (.ref 407), some (.ref t1), some (.int x2), some (.int x3), some (.int x4), some (.int x5), some (.int x6), none] [] Z I J o := by
  refine ex_step (pc' := 38) dX10_findOrder_36 rfl ?_
  refine ex_step (pc' := 40) (st' := [.int 6, .int x6]) dX10_findOrder_38 rfl ?_
  refine ex_icmp (pc' := 120) dX10_findOrder_40 (by decide) (fun c => ?_) (fun c => ?_)
  · have h := h.1 c
    rw [h]; exact ex_ret (v := none) ⟨dX10_findOrder_120, rfl⟩
  · have h := h.2 c
    refine ex_step (pc' := 45) dX10_findOrder_43 rfl ?_
    refine ex_if (pc' := 120) dX10_findOrder_45 (by decide) (fun c => ?_) (fun c => ?_)
    · have h := h.1 c
      rw [h]; exact ex_ret (v := none) ⟨dX10_findOrder_120, rfl⟩
    · have h := h.2 c
      refine ex_step (pc' := 49) dX10_findOrder_48 rfl ?_
      refine ex_step (pc' := 50) dX10_findOrder_49 rfl ?_
      refine ex_step (pc' := 51) dX10_findOrder_50 rfl ?_
      refine ex_step (pc' := 53) dX10_findOrder_51 rfl ?_
      refine ex_step (pc' := 54) dX10_findOrder_53 rfl ?_
      refine ex_step (pc' := 56) dX10_findOrder_54 rfl ?_
      obtain ⟨v1, hc, h⟩ := h
      refine ex_callV (as := [.ref t1, .int x2, .int x5, .int x3, .int x4]) (st := []) (ci := 10) dX10_findOrder_56 zmX10_nextOf zl_RX10_46 ziX10_nextOf zvX10_nextOf (by decide) (ly_a407 hL) rfl (Nat.le_of_ble_eq_true rfl) (Nat.le_of_ble_eq_true rfl) hc ?_
      refine ex_step (pc' := 61) (ls' := [some (.ref 407), some (.ref t1), some (.int x2), some (.int x3), some (.int x4), some (.int x5), some (.int x6), some (.int v1)]) dX10_findOrder_59 rfl ?_
      refine ex_step (pc' := 62) dX10_findOrder_61 rfl ?_
      refine ex_getr dX10_findOrder_62 wf_RX10_9 (ly_a407 hL) rfl (ly_r407_0 hL) ?_
      refine ex_step (pc' := 67) dX10_findOrder_65 rfl ?_
      refine ex_step (pc' := 69) dX10_findOrder_67 rfl ?_
      obtain ⟨I2, eI2⟩ : ∃ q : zI, q = zpt I 408 6 x6 v1 := ⟨_, rfl⟩
      have h := h I2 eI2
      refine ex_callS (as := [.ref 408, .int x6, .int v1]) (st := []) dX10_findOrder_69 zmX11_put zl_RX10_37 zsX11_put rfl (Nat.le_of_ble_eq_true rfl) (Nat.le_of_ble_eq_true rfl) (eI2 ▸ (S_put' (by decide) (ly_a408 hL))) ?_
      refine ex_step (pc' := 74) dX10_findOrder_72 rfl ?_
      refine ex_step (pc' := 75) (st' := [.int 1, .int x5]) dX10_findOrder_74 rfl ?_
      refine ex_step (pc' := 77) dX10_findOrder_75 rfl ?_
      refine ex_step (pc' := 78) dX10_findOrder_77 rfl ?_
      refine ex_step (pc' := 79) (st' := [.int (-1), .int ((1 : Int32) <<< (v1 &&& 31)), .int x5]) dX10_findOrder_78 rfl ?_
      refine ex_step (pc' := 80) dX10_findOrder_79 rfl ?_
      refine ex_step (pc' := 81) dX10_findOrder_80 rfl ?_
      refine ex_topi (fun y3 ey3 => ?_)
      have h := h y3 ey3
      refine ex_step (pc' := 83) (ls' := [some (.ref 407), some (.ref t1), some (.int x2), some (.int x3), some (.int x4), some (.int y3), some (.int x6), some (.int v1)]) dX10_findOrder_81 rfl ?_
      refine ex_step (pc' := 84) dX10_findOrder_83 rfl ?_
      refine ex_getr dX10_findOrder_84 wf_RX10_27 (zTx_o ht1) rfl (zTx_r13 ht1) ?_
      refine ex_step (pc' := 88) dX10_findOrder_87 rfl ?_
      refine ex_step (pc' := 90) (st' := [.int 6, .int x2, .ref (t1 + 12)]) dX10_findOrder_88 rfl ?_
      refine ex_step (pc' := 91) dX10_findOrder_90 rfl ?_
      refine ex_step (pc' := 93) dX10_findOrder_91 rfl ?_
      refine ex_step (pc' := 94) dX10_findOrder_93 rfl ?_
      refine ex_callS (as := [.ref (t1 + 12), .int ((x2 * 6) + v1)]) (st := []) dX10_findOrder_94 zmX11_at zl_RX10_23 zsX11_at rfl (Nat.le_of_ble_eq_true rfl) (Nat.le_of_ble_eq_true rfl) (S_at' (by decide) (zTx_a12 ht1)) ?_
      refine ex_topi (fun y4 ey4 => ?_)
      have h := h y4 ey4
      refine ex_step (pc' := 98) (ls' := [some (.ref 407), some (.ref t1), some (.int x2), some (.int y4), some (.int x4), some (.int y3), some (.int x6), some (.int v1)]) dX10_findOrder_97 rfl ?_
      refine ex_step (pc' := 99) dX10_findOrder_98 rfl ?_
      refine ex_getr dX10_findOrder_99 wf_RX10_30 (zTx_o ht1) rfl (zTx_r14 ht1) ?_
      refine ex_step (pc' := 103) dX10_findOrder_102 rfl ?_
      refine ex_step (pc' := 105) (st' := [.int 6, .int x2, .ref (t1 + 13)]) dX10_findOrder_103 rfl ?_
      refine ex_step (pc' := 106) dX10_findOrder_105 rfl ?_
      refine ex_step (pc' := 108) dX10_findOrder_106 rfl ?_
      refine ex_step (pc' := 109) dX10_findOrder_108 rfl ?_
      refine ex_callS (as := [.ref (t1 + 13), .int ((x2 * 6) + v1)]) (st := []) dX10_findOrder_109 zmX11_at zl_RX10_23 zsX11_at rfl (Nat.le_of_ble_eq_true rfl) (Nat.le_of_ble_eq_true rfl) (S_at' (by decide) (zTx_a13 ht1)) ?_
      refine ex_topi (fun y5 ey5 => ?_)
      have h := h y5 ey5
      refine ex_step (pc' := 114) (ls' := [some (.ref 407), some (.ref t1), some (.int x2), some (.int y4), some (.int y5), some (.int y3), some (.int x6), some (.int v1)]) dX10_findOrder_112 rfl ?_
      refine ex_step (pc' := 117) (ls' := [some (.ref 407), some (.ref t1), some (.int x2), some (.int y4), some (.int y5), some (.int y3), some (.int (x6 + 1)), some (.int v1)]) dX10_findOrder_114 rfl ?_
      refine ex_step (pc' := 36) dX10_findOrder_117 rfl ?_
      exact ex_less (ls' := [some (.ref 407), some (.ref t1), some (.int x2), some (.int y4), some (.int y5), some (.int y3), some (.int (x6 + 1)), none]) ⟨rfl, ⟨rfl, ⟨rfl, ⟨rfl, ⟨rfl, ⟨rfl, ⟨rfl, trivial⟩⟩⟩⟩⟩⟩⟩ h
set_option maxHeartbeats 4000000 in
theorem BX10_countHomes_0 {d : Nat} {Z : zZ} {I : zI} {J : zJ} {o : zO} {t u : Nat} {t1 : Nat} (x2 : Int32) (hL : zLY Z t u) (ht1 : zTx Z t1) (h : zE (d + 6) kX10_countHomes 5 [some (.ref 407), some (.ref t1), some (.int x2), some (.int 0), some (.int 0), none, none] [] Z I J o) : zE (d + 6) kX10_countHomes 0 [some (.ref 407), some (.ref t1), some (.int x2), none, none, none, none] [] Z I J o := by
  refine ex_step (pc' := 1) (st' := [.int 0]) dX10_countHomes_0 rfl ?_
  refine ex_step (pc' := 2) (ls' := [some (.ref 407), some (.ref t1), some (.int x2), some (.int 0), none, none, none]) dX10_countHomes_1 rfl ?_
  refine ex_step (pc' := 3) (st' := [.int 0]) dX10_countHomes_2 rfl ?_
  refine ex_step (pc' := 5) (ls' := [some (.ref 407), some (.ref t1), some (.int x2), some (.int 0), some (.int 0), none, none]) dX10_countHomes_3 rfl ?_
  exact h
set_option maxHeartbeats 4000000 in
theorem BX10_countHomes_5 {d : Nat} {Z : zZ} {I : zI} {J : zJ} {o : zO} {t u : Nat} {t1 : Nat} (x2 : Int32) (x3 : Int32) (x4 : Int32) (hL : zLY Z t u) (ht1 : zTx Z t1) (h : ((144 ≤ x4 → o = (some (.int x3), Z, I, J)) ∧ (¬ 144 ≤ x4 → (∃ (v1 : Int32), zE (d + 5) kX6_hasCorner 0 [some (.ref t1), some (.int (x4 - x4 / 12 * 12)), some (.int (x4 / 12))] [] Z I J (some (.int v1), Z, I, J) ∧ ((v1 = 0 → zE (d + 6) kX10_countHomes 5 [some (.ref 407), some (.ref t1), some (.int x2), some (.int x3), some (.int (x4 + 1)), none, none] [] Z I J o) ∧ (¬ v1 = 0 → (∃ (v2 : Int32), zE (d + 5) kX10_fewest 0 [some (.ref 407), some (.ref t1), some (.int x2), some (.int (x4 - x4 / 12 * 12)), some (.int (x4 / 12))] [] Z I J (some (.int v2), Z, I, J) ∧ (((zat I (t1 + 9) 7 x2) < v2 → zE (d + 6) kX10_countHomes 5 [some (.ref 407), some (.ref t1), some (.int x2), some (.int x3), some (.int (x4 + 1)), none, none] [] Z I J o) ∧ (¬ (zat I (t1 + 9) 7 x2) < v2 → zE (d + 6) kX10_countHomes 5 [some (.ref 407), some (.ref t1), some (.int x2), some (.int (x3 + 1)), some (.int (x4 + 1)), none, none] [] Z I J o))))))))) : zE (d + 6) kX10_countHomes 5 [some (.ref 407), some (.ref t1), some (.int x2), some (.int x3), some (.int x4), none, none] [] Z I J o := by
  refine ex_step (pc' := 7) dX10_countHomes_5 rfl ?_
  refine ex_step (pc' := 10) (st' := [.int 144, .int x4]) dX10_countHomes_7 rfl ?_
  refine ex_icmp (pc' := 68) dX10_countHomes_10 (by decide) (fun c => ?_) (fun c => ?_)
  · have h := h.1 c
    refine ex_step (pc' := 69) dX10_countHomes_68 rfl ?_
    rw [h]; exact ex_ret (v := some (.int x3)) ⟨dX10_countHomes_69, _, rfl, rfl⟩
  · have h := h.2 c
    refine ex_step (pc' := 15) dX10_countHomes_13 rfl ?_
    refine ex_step (pc' := 17) (st' := [.int 12, .int x4]) dX10_countHomes_15 rfl ?_
    refine ex_rem dX10_countHomes_17 (by decide) ?_
    refine ex_step (pc' := 20) (ls' := [some (.ref 407), some (.ref t1), some (.int x2), some (.int x3), some (.int x4), some (.int (x4 - x4 / 12 * 12)), none]) dX10_countHomes_18 rfl ?_
    refine ex_step (pc' := 22) dX10_countHomes_20 rfl ?_
    refine ex_step (pc' := 24) (st' := [.int 12, .int x4]) dX10_countHomes_22 rfl ?_
    refine ex_div dX10_countHomes_24 (by decide) ?_
    refine ex_step (pc' := 27) (ls' := [some (.ref 407), some (.ref t1), some (.int x2), some (.int x3), some (.int x4), some (.int (x4 - x4 / 12 * 12)), some (.int (x4 / 12))]) dX10_countHomes_25 rfl ?_
    refine ex_step (pc' := 28) dX10_countHomes_27 rfl ?_
    refine ex_step (pc' := 30) dX10_countHomes_28 rfl ?_
    refine ex_step (pc' := 32) dX10_countHomes_30 rfl ?_
    obtain ⟨v1, hc, h⟩ := h
    refine ex_callV (as := [.int (x4 - x4 / 12 * 12), .int (x4 / 12)]) (st := []) (ci := 6) dX10_countHomes_32 zmX6_hasCorner zl_RX10_55 ziX6_hasCorner zvX6_hasCorner (by decide) (zTx_o ht1) rfl (Nat.le_of_ble_eq_true rfl) (Nat.le_of_ble_eq_true rfl) hc ?_
    refine ex_if (pc' := 62) dX10_countHomes_35 (by decide) (fun c => ?_) (fun c => ?_)
    · have h := h.1 c
      refine ex_step (pc' := 65) (ls' := [some (.ref 407), some (.ref t1), some (.int x2), some (.int x3), some (.int (x4 + 1)), some (.int (x4 - x4 / 12 * 12)), some (.int (x4 / 12))]) dX10_countHomes_62 rfl ?_
      refine ex_step (pc' := 5) dX10_countHomes_65 rfl ?_
      exact ex_less (ls' := [some (.ref 407), some (.ref t1), some (.int x2), some (.int x3), some (.int (x4 + 1)), none, none]) ⟨rfl, ⟨rfl, ⟨rfl, ⟨rfl, ⟨rfl, trivial⟩⟩⟩⟩⟩ h
    · have h := h.2 c
      refine ex_step (pc' := 39) dX10_countHomes_38 rfl ?_
      refine ex_step (pc' := 40) dX10_countHomes_39 rfl ?_
      refine ex_step (pc' := 41) dX10_countHomes_40 rfl ?_
      refine ex_step (pc' := 43) dX10_countHomes_41 rfl ?_
      refine ex_step (pc' := 45) dX10_countHomes_43 rfl ?_
      obtain ⟨v2, hc, h⟩ := h
      refine ex_callV (as := [.ref t1, .int x2, .int (x4 - x4 / 12 * 12), .int (x4 / 12)]) (st := []) (ci := 10) dX10_countHomes_45 zmX10_fewest zl_RX10_59 ziX10_fewest zvX10_fewest (by decide) (ly_a407 hL) rfl (Nat.le_of_ble_eq_true rfl) (Nat.le_of_ble_eq_true rfl) hc ?_
      refine ex_step (pc' := 49) dX10_countHomes_48 rfl ?_
      refine ex_getr dX10_countHomes_49 wf_RX10_63 (zTx_o ht1) rfl (zTx_r10 ht1) ?_
      refine ex_step (pc' := 53) dX10_countHomes_52 rfl ?_
      refine ex_callS (as := [.ref (t1 + 9), .int x2]) (st := [.int v2]) dX10_countHomes_53 zmX11_at zl_RX10_23 zsX11_at rfl (Nat.le_of_ble_eq_true rfl) (Nat.le_of_ble_eq_true rfl) (S_at' (by decide) (zTx_a9 ht1)) ?_
      refine ex_icmp (pc' := 62) dX10_countHomes_56 (by decide) (fun c => ?_) (fun c => ?_)
      · have h := h.1 c
        refine ex_step (pc' := 65) (ls' := [some (.ref 407), some (.ref t1), some (.int x2), some (.int x3), some (.int (x4 + 1)), some (.int (x4 - x4 / 12 * 12)), some (.int (x4 / 12))]) dX10_countHomes_62 rfl ?_
        refine ex_step (pc' := 5) dX10_countHomes_65 rfl ?_
        exact ex_less (ls' := [some (.ref 407), some (.ref t1), some (.int x2), some (.int x3), some (.int (x4 + 1)), none, none]) ⟨rfl, ⟨rfl, ⟨rfl, ⟨rfl, ⟨rfl, trivial⟩⟩⟩⟩⟩ h
      · have h := h.2 c
        refine ex_step (pc' := 62) (ls' := [some (.ref 407), some (.ref t1), some (.int x2), some (.int (x3 + 1)), some (.int x4), some (.int (x4 - x4 / 12 * 12)), some (.int (x4 / 12))]) dX10_countHomes_59 rfl ?_
        refine ex_step (pc' := 65) (ls' := [some (.ref 407), some (.ref t1), some (.int x2), some (.int (x3 + 1)), some (.int (x4 + 1)), some (.int (x4 - x4 / 12 * 12)), some (.int (x4 / 12))]) dX10_countHomes_62 rfl ?_
        refine ex_step (pc' := 5) dX10_countHomes_65 rfl ?_
        exact ex_less (ls' := [some (.ref 407), some (.ref t1), some (.int x2), some (.int (x3 + 1)), some (.int (x4 + 1)), none, none]) ⟨rfl, ⟨rfl, ⟨rfl, ⟨rfl, ⟨rfl, trivial⟩⟩⟩⟩⟩ h
