set_option maxHeartbeats 4000000 in
theorem BX12_feed_0 {d : Nat} {Z : zZ} {I : zI} {J : zJ} {o : zO} {t u : Nat} (x1 : Int32) (x2 : Int32) (x3 : Int32) (x4 : Int32) (x5 : Int32) (hL : zLY Z t u)  (h : ((((I 420 2) + 20) ≤ 2000 → (∃ (I1 : zI), zE d kX12_put 0 [some (.ref 420), some (.int x1), none] [] Z I J (none, Z, I1, J) ∧ (∃ (I2 : zI), zE d kX12_put 0 [some (.ref 420), some (.int x2), none] [] Z I1 J (none, Z, I2, J) ∧ (∃ (I3 : zI), zE d kX12_put 0 [some (.ref 420), some (.int x3), none] [] Z I2 J (none, Z, I3, J) ∧ (∃ (I4 : zI), zE d kX12_put 0 [some (.ref 420), some (.int x4), none] [] Z I3 J (none, Z, I4, J) ∧ (∃ (I5 : zI), zE d kX12_put 0 [some (.ref 420), some (.int x5), none] [] Z I4 J (none, Z, I5, J) ∧ o = (some (.int (I5 420 2)), Z, I5, J))))))) ∧ (¬ ((I 420 2) + 20) ≤ 2000 → o = (some (.int (-1)), Z, I, J)))) : zE (d + 1) kX12_feed 0 [some (.ref 420), some (.int x1), some (.int x2), some (.int x3), some (.int x4), some (.int x5)] [] Z I J o := by
  refine ex_step (pc' := 1) dX12_feed_0 rfl ?_
  refine ex_geti dX12_feed_1 wf_RX12_191 (ly_a420 hL) rfl ?_
  refine ex_step (pc' := 6) (st' := [.int 20, .int (I 420 2)]) dX12_feed_4 rfl ?_
  refine ex_step (pc' := 7) dX12_feed_6 rfl ?_
  refine ex_step (pc' := 10) (st' := [.int 2000, .int ((I 420 2) + 20)]) dX12_feed_7 rfl ?_
  refine ex_icmp (pc' := 15) dX12_feed_10 (by decide) (fun c => ?_) (fun c => ?_)
  · have h := h.1 c
    refine ex_step (pc' := 16) dX12_feed_15 rfl ?_
    refine ex_step (pc' := 17) dX12_feed_16 rfl ?_
    obtain ⟨I1, hc, h⟩ := h
    refine ex_callV (as := [.int x1]) (st := []) (ci := 12) dX12_feed_17 zmX12_put zl_RX12_194 ziX12_put zvX12_put (by decide) (ly_a420 hL) rfl (Nat.le_of_ble_eq_true rfl) (Nat.le_of_ble_eq_true rfl) hc ?_
    refine ex_step (pc' := 21) dX12_feed_20 rfl ?_
    refine ex_step (pc' := 22) dX12_feed_21 rfl ?_
    obtain ⟨I2, hc, h⟩ := h
    refine ex_callV (as := [.int x2]) (st := []) (ci := 12) dX12_feed_22 zmX12_put zl_RX12_194 ziX12_put zvX12_put (by decide) (ly_a420 hL) rfl (Nat.le_of_ble_eq_true rfl) (Nat.le_of_ble_eq_true rfl) hc ?_
    refine ex_step (pc' := 26) dX12_feed_25 rfl ?_
    refine ex_step (pc' := 27) dX12_feed_26 rfl ?_
    obtain ⟨I3, hc, h⟩ := h
    refine ex_callV (as := [.int x3]) (st := []) (ci := 12) dX12_feed_27 zmX12_put zl_RX12_194 ziX12_put zvX12_put (by decide) (ly_a420 hL) rfl (Nat.le_of_ble_eq_true rfl) (Nat.le_of_ble_eq_true rfl) hc ?_
    refine ex_step (pc' := 31) dX12_feed_30 rfl ?_
    refine ex_step (pc' := 33) dX12_feed_31 rfl ?_
    obtain ⟨I4, hc, h⟩ := h
    refine ex_callV (as := [.int x4]) (st := []) (ci := 12) dX12_feed_33 zmX12_put zl_RX12_194 ziX12_put zvX12_put (by decide) (ly_a420 hL) rfl (Nat.le_of_ble_eq_true rfl) (Nat.le_of_ble_eq_true rfl) hc ?_
    refine ex_step (pc' := 37) dX12_feed_36 rfl ?_
    refine ex_step (pc' := 39) dX12_feed_37 rfl ?_
    obtain ⟨I5, hc, h⟩ := h
    refine ex_callV (as := [.int x5]) (st := []) (ci := 12) dX12_feed_39 zmX12_put zl_RX12_194 ziX12_put zvX12_put (by decide) (ly_a420 hL) rfl (Nat.le_of_ble_eq_true rfl) (Nat.le_of_ble_eq_true rfl) hc ?_
    refine ex_step (pc' := 43) dX12_feed_42 rfl ?_
    refine ex_geti dX12_feed_43 wf_RX12_191 (ly_a420 hL) rfl ?_
    rw [h]; exact ex_ret (v := some (.int (I5 420 2))) ⟨dX12_feed_46, _, rfl, rfl⟩
  · have h := h.2 c
    refine ex_step (pc' := 14) (st' := [.int (-1)]) dX12_feed_13 rfl ?_
    rw [h]; exact ex_ret (v := some (.int (-1))) ⟨dX12_feed_14, _, rfl, rfl⟩
set_option maxHeartbeats 4000000 in
theorem BX12_put_0 {d : Nat} {Z : zZ} {I : zI} {J : zJ} {o : zO} {t u : Nat} (x1 : Int32) (hL : zLY Z t u)  (h : zE d kX12_put 3 [some (.ref 420), some (.int x1), some (.int 24)] [] Z I J o) : zE d kX12_put 0 [some (.ref 420), some (.int x1), none] [] Z I J o := by
  refine ex_step (pc' := 2) (st' := [.int 24]) dX12_put_0 rfl ?_
  refine ex_step (pc' := 3) (ls' := [some (.ref 420), some (.int x1), some (.int 24)]) dX12_put_2 rfl ?_
  exact h
set_option maxHeartbeats 4000000 in
theorem BX12_put_3 {d : Nat} {Z : zZ} {I : zI} {J : zJ} {o : zO} {t u : Nat} (x1 : Int32) (x2 : Int32) (hL : zLY Z t u)  (h : ((x2 < 0 → o = (none, Z, I, J)) ∧ (¬ x2 < 0 → (vp_in (I 420 2) 2000 ∧ (∀ I1 : zI, I1 = zu I 421 (I 420 2).toNatClampNeg (vp_nar .byte ((x1 >>> (x2 &&& 31)).toInt8.toInt32)) → (∀ I2 : zI, I2 = zu I1 420 2 ((I1 420 2) + 1) → zE d kX12_put 3 [some (.ref 420), some (.int x1), some (.int (x2 + (-8)))] [] Z I2 J o)))))) : zE d kX12_put 3 [some (.ref 420), some (.int x1), some (.int x2)] [] Z I J o := by
  refine ex_step (pc' := 4) dX12_put_3 rfl ?_
  refine ex_if (pc' := 36) dX12_put_4 (by decide) (fun c => ?_) (fun c => ?_)
  · have h := h.1 c
    rw [h]; exact ex_ret (v := none) ⟨dX12_put_36, rfl⟩
  · have h := h.2 c
    refine ex_step (pc' := 8) dX12_put_7 rfl ?_
    refine ex_getr dX12_put_8 wf_RX12_13 (ly_a420 hL) rfl (ly_r420_1 hL) ?_
    refine ex_step (pc' := 12) dX12_put_11 rfl ?_
    refine ex_geti dX12_put_12 wf_RX12_191 (ly_a420 hL) rfl ?_
    refine ex_step (pc' := 16) dX12_put_15 rfl ?_
    refine ex_step (pc' := 17) dX12_put_16 rfl ?_
    refine ex_step (pc' := 18) dX12_put_17 rfl ?_
    refine ex_step (pc' := 19) dX12_put_18 rfl ?_
    obtain ⟨hv, h⟩ := h
    refine ex_bastN dX12_put_19 (ly_a421 hL) hv (fun I1 eI1 => ?_)
    have h := h I1 eI1
    refine ex_step (pc' := 21) dX12_put_20 rfl ?_
    refine ex_step (pc' := 22) dX12_put_21 rfl ?_
    refine ex_geti dX12_put_22 wf_RX12_191 (ly_a420 hL) rfl ?_
    refine ex_step (pc' := 26) (st' := [.int 1, .int (I1 420 2), .ref 420]) dX12_put_25 rfl ?_
    refine ex_step (pc' := 27) dX12_put_26 rfl ?_
    refine ex_putiN dX12_put_27 (wp_RX12_191 _) (ly_a420 hL) rfl ⟨rfl, rfl⟩ (fun I2 eI2 => ?_)
    have h := h I2 eI2
    refine ex_step (pc' := 33) (ls' := [some (.ref 420), some (.int x1), some (.int (x2 + (-8)))]) dX12_put_30 rfl ?_
    refine ex_step (pc' := 3) dX12_put_33 rfl ?_
    exact h
set_option maxHeartbeats 4000000 in
theorem BX12_back_0 {d : Nat} {Z : zZ} {I : zI} {J : zJ} {o : zO} {t u : Nat} (x1 : Int32) (hL : zLY Z t u)  (h : ((x1 < 0 → o = (some (.int (-1)), Z, I, J)) ∧ (¬ x1 < 0 → ((x1 ≤ (I 420 2) → (∀ I1 : zI, I1 = zu I 420 2 ((I 420 2) - x1) → o = (some (.int (I1 420 2)), Z, I1, J))) ∧ (¬ x1 ≤ (I 420 2) → o = (some (.int (-1)), Z, I, J)))))) : zE d kX12_back 0 [some (.ref 420), some (.int x1)] [] Z I J o := by
  refine ex_step (pc' := 1) dX12_back_0 rfl ?_
  refine ex_if (pc' := 12) dX12_back_1 (by decide) (fun c => ?_) (fun c => ?_)
  · have h := h.1 c
    refine ex_step (pc' := 13) (st' := [.int (-1)]) dX12_back_12 rfl ?_
    rw [h]; exact ex_ret (v := some (.int (-1))) ⟨dX12_back_13, _, rfl, rfl⟩
  · have h := h.2 c
    refine ex_step (pc' := 5) dX12_back_4 rfl ?_
    refine ex_step (pc' := 6) dX12_back_5 rfl ?_
    refine ex_geti dX12_back_6 wf_RX12_191 (ly_a420 hL) rfl ?_
    refine ex_icmp (pc' := 14) dX12_back_9 (by decide) (fun c => ?_) (fun c => ?_)
    · have h := h.1 c
      refine ex_step (pc' := 15) dX12_back_14 rfl ?_
      refine ex_step (pc' := 16) dX12_back_15 rfl ?_
      refine ex_geti dX12_back_16 wf_RX12_191 (ly_a420 hL) rfl ?_
      refine ex_step (pc' := 20) dX12_back_19 rfl ?_
      refine ex_step (pc' := 21) dX12_back_20 rfl ?_
      refine ex_putiN dX12_back_21 (wp_RX12_191 _) (ly_a420 hL) rfl ⟨rfl, rfl⟩ (fun I1 eI1 => ?_)
      have h := h I1 eI1
      refine ex_step (pc' := 25) dX12_back_24 rfl ?_
      refine ex_geti dX12_back_25 wf_RX12_191 (ly_a420 hL) rfl ?_
      rw [h]; exact ex_ret (v := some (.int (I1 420 2))) ⟨dX12_back_28, _, rfl, rfl⟩
    · have h := h.2 c
      refine ex_step (pc' := 13) (st' := [.int (-1)]) dX12_back_12 rfl ?_
      rw [h]; exact ex_ret (v := some (.int (-1))) ⟨dX12_back_13, _, rfl, rfl⟩
set_option maxHeartbeats 4000000 in
theorem BX12_byteAt_0 {d : Nat} {Z : zZ} {I : zI} {J : zJ} {o : zO} {t u : Nat} (x1 : Int32) (hL : zLY Z t u)  (h : (((I 420 4) ≤ x1 → o = (some (.int 0), Z, I, J)) ∧ (¬ (I 420 4) ≤ x1 → (vp_in x1 2000 ∧ o = (some (.int ((I 422 x1.toNatClampNeg) &&& 255)), Z, I, J))))) : zE d kX12_byteAt 0 [some (.ref 420), some (.int x1)] [] Z I J o := by
  refine ex_step (pc' := 1) dX12_byteAt_0 rfl ?_
  refine ex_step (pc' := 2) dX12_byteAt_1 rfl ?_
  refine ex_geti dX12_byteAt_2 wf_RX12_197 (ly_a420 hL) rfl ?_
  refine ex_icmp (pc' := 21) dX12_byteAt_5 (by decide) (fun c => ?_) (fun c => ?_)
  · have h := h.1 c
    refine ex_step (pc' := 22) (st' := [.int 0]) dX12_byteAt_21 rfl ?_
    rw [h]; exact ex_ret (v := some (.int 0)) ⟨dX12_byteAt_22, _, rfl, rfl⟩
  · have h := h.2 c
    refine ex_step (pc' := 9) dX12_byteAt_8 rfl ?_
    refine ex_getr dX12_byteAt_9 wf_RX12_17 (ly_a420 hL) rfl (ly_r420_3 hL) ?_
    refine ex_step (pc' := 13) dX12_byteAt_12 rfl ?_
    obtain ⟨hv, h⟩ := h
    refine ex_bald dX12_byteAt_13 (Or.inl (ly_a422 hL)) hv ?_
    refine ex_step (pc' := 17) (st' := [.int 255, .int (I 422 x1.toNatClampNeg)]) dX12_byteAt_14 rfl ?_
    refine ex_step (pc' := 18) dX12_byteAt_17 rfl ?_
    refine ex_step (pc' := 22) dX12_byteAt_18 rfl ?_
    rw [h]; exact ex_ret (v := some (.int ((I 422 x1.toNatClampNeg) &&& 255))) ⟨dX12_byteAt_22, _, rfl, rfl⟩
set_option maxHeartbeats 4000000 in
theorem BX12_word_0 {d : Nat} {Z : zZ} {I : zI} {J : zJ} {o : zO} (x0 : Int32) (x1 : Int32) (x2 : Int32) (x3 : Int32) (x4 : Int32) (x5 : Int32) (x6 : Int32)  (h : o = (some (.long (zapp (zapp (zapp (zapp (zapp (zapp (zapp 0 x0) x1) x2) x3) x4) x5) x6)), Z, I, J)) : zE (d + 1) kX12_word 0 [some (.int x0), some (.int x1), some (.int x2), some (.int x3), some (.int x4), some (.int x5), some (.int x6)] [] Z I J o := by
  refine ex_step (pc' := 1) (st' := [.long 0]) dX12_word_0 rfl ?_
  refine ex_step (pc' := 2) dX12_word_1 rfl ?_
  refine ex_callS (as := [.long 0, .int x0]) (st := []) dX12_word_2 zmX12_appends zl_RX12_202 zsX12_appends rfl (Nat.le_of_ble_eq_true rfl) (Nat.le_of_ble_eq_true rfl) M_appends ?_
  refine ex_step (pc' := 6) dX12_word_5 rfl ?_
  refine ex_callS (as := [.long (zapp 0 x0), .int x1]) (st := []) dX12_word_6 zmX12_appends zl_RX12_202 zsX12_appends rfl (Nat.le_of_ble_eq_true rfl) (Nat.le_of_ble_eq_true rfl) M_appends ?_
  refine ex_step (pc' := 10) dX12_word_9 rfl ?_
  refine ex_callS (as := [.long (zapp (zapp 0 x0) x1), .int x2]) (st := []) dX12_word_10 zmX12_appends zl_RX12_202 zsX12_appends rfl (Nat.le_of_ble_eq_true rfl) (Nat.le_of_ble_eq_true rfl) M_appends ?_
  refine ex_step (pc' := 14) dX12_word_13 rfl ?_
  refine ex_callS (as := [.long (zapp (zapp (zapp 0 x0) x1) x2), .int x3]) (st := []) dX12_word_14 zmX12_appends zl_RX12_202 zsX12_appends rfl (Nat.le_of_ble_eq_true rfl) (Nat.le_of_ble_eq_true rfl) M_appends ?_
  refine ex_step (pc' := 19) dX12_word_17 rfl ?_
  refine ex_callS (as := [.long (zapp (zapp (zapp (zapp 0 x0) x1) x2) x3), .int x4]) (st := []) dX12_word_19 zmX12_appends zl_RX12_202 zsX12_appends rfl (Nat.le_of_ble_eq_true rfl) (Nat.le_of_ble_eq_true rfl) M_appends ?_
  refine ex_step (pc' := 24) dX12_word_22 rfl ?_
  refine ex_callS (as := [.long (zapp (zapp (zapp (zapp (zapp 0 x0) x1) x2) x3) x4), .int x5]) (st := []) dX12_word_24 zmX12_appends zl_RX12_202 zsX12_appends rfl (Nat.le_of_ble_eq_true rfl) (Nat.le_of_ble_eq_true rfl) M_appends ?_
  refine ex_step (pc' := 29) dX12_word_27 rfl ?_
  refine ex_callS (as := [.long (zapp (zapp (zapp (zapp (zapp (zapp 0 x0) x1) x2) x3) x4) x5), .int x6]) (st := []) dX12_word_29 zmX12_appends zl_RX12_202 zsX12_appends rfl (Nat.le_of_ble_eq_true rfl) (Nat.le_of_ble_eq_true rfl) M_appends ?_
  rw [h]; exact ex_ret (v := some (.long (zapp (zapp (zapp (zapp (zapp (zapp (zapp 0 x0) x1) x2) x3) x4) x5) x6))) ⟨dX12_word_32, rfl⟩
set_option maxHeartbeats 4000000 in
theorem BX12_token_0 {d : Nat} {Z : zZ} {I : zI} {J : zJ} {o : zO} {t u : Nat} (x1 : Int32) (x2 : Int32) (x3 : Int32) (w4 : Int64) (hL : zLY Z t u)  (h : (vp_in (I 420 10) 403 ∧ (∀ I1 : zI, I1 = zu I 423 (I 420 10).toNatClampNeg x1 → (vp_in (I1 420 10) 403 ∧ (∀ I2 : zI, I2 = zu I1 424 (I1 420 10).toNatClampNeg x2 → (vp_in (I2 420 10) 403 ∧ (∀ I3 : zI, I3 = zu I2 425 (I2 420 10).toNatClampNeg x3 → (vp_in (I3 420 10) 403 ∧ (∀ J4 : zJ, J4 = zu J 426 (I3 420 10).toNatClampNeg w4 → (∀ I5 : zI, I5 = zu I3 420 10 ((I3 420 10) + 1) → o = (none, Z, I5, J4))))))))))) : zE d kX12_token 0 [some (.ref 420), some (.int x1), some (.int x2), some (.int x3), some (.long w4), none] [] Z I J o := by
  refine ex_step (pc' := 1) dX12_token_0 rfl ?_
  refine ex_getr dX12_token_1 wf_RX12_20 (ly_a420 hL) rfl (ly_r420_5 hL) ?_
  refine ex_step (pc' := 5) dX12_token_4 rfl ?_
  refine ex_geti dX12_token_5 wf_RX12_206 (ly_a420 hL) rfl ?_
  refine ex_step (pc' := 9) dX12_token_8 rfl ?_
  obtain ⟨hv, h⟩ := h
  refine ex_iastN dX12_token_9 (ly_a423 hL) hv (fun I1 eI1 => ?_)
  have h := h I1 eI1
  refine ex_step (pc' := 11) dX12_token_10 rfl ?_
  refine ex_getr dX12_token_11 wf_RX12_24 (ly_a420 hL) rfl (ly_r420_6 hL) ?_
  refine ex_step (pc' := 15) dX12_token_14 rfl ?_
  refine ex_geti dX12_token_15 wf_RX12_206 (ly_a420 hL) rfl ?_
  refine ex_step (pc' := 19) dX12_token_18 rfl ?_
  obtain ⟨hv, h⟩ := h
  refine ex_iastN dX12_token_19 (ly_a424 hL) hv (fun I2 eI2 => ?_)
  have h := h I2 eI2
  refine ex_step (pc' := 21) dX12_token_20 rfl ?_
  refine ex_getr dX12_token_21 wf_RX12_27 (ly_a420 hL) rfl (ly_r420_7 hL) ?_
  refine ex_step (pc' := 25) dX12_token_24 rfl ?_
  refine ex_geti dX12_token_25 wf_RX12_206 (ly_a420 hL) rfl ?_
  refine ex_step (pc' := 29) dX12_token_28 rfl ?_
  obtain ⟨hv, h⟩ := h
  refine ex_iastN dX12_token_29 (ly_a425 hL) hv (fun I3 eI3 => ?_)
  have h := h I3 eI3
  refine ex_step (pc' := 31) dX12_token_30 rfl ?_
  refine ex_getr dX12_token_31 wf_RX12_30 (ly_a420 hL) rfl (ly_r420_8 hL) ?_
  refine ex_step (pc' := 35) dX12_token_34 rfl ?_
  refine ex_geti dX12_token_35 wf_RX12_206 (ly_a420 hL) rfl ?_
  refine ex_step (pc' := 40) dX12_token_38 rfl ?_
  obtain ⟨hv, h⟩ := h
  refine ex_lastN dX12_token_40 (ly_a426 hL) hv (fun J4 eJ4 => ?_)
  have h := h J4 eJ4
  refine ex_step (pc' := 42) dX12_token_41 rfl ?_
  refine ex_step (pc' := 43) dX12_token_42 rfl ?_
  refine ex_geti dX12_token_43 wf_RX12_206 (ly_a420 hL) rfl ?_
  refine ex_step (pc' := 47) (st' := [.int 1, .int (I3 420 10), .ref 420]) dX12_token_46 rfl ?_
  refine ex_step (pc' := 48) dX12_token_47 rfl ?_
  refine ex_putiN dX12_token_48 (wp_RX12_206 _) (ly_a420 hL) rfl ⟨rfl, rfl⟩ (fun I5 eI5 => ?_)
  have h := h I5 eI5
  rw [h]; exact ex_ret (v := none) ⟨dX12_token_51, rfl⟩
set_option maxHeartbeats 4000000 in
theorem BX12_cut0_0 {d : Nat} {Z : zZ} {I : zI} {J : zJ} {o : zO} {t u : Nat}  (hL : zLY Z t u)  (h : (∀ I1 : zI, I1 = zu I 420 10 0 → zE (d + 2) kX12_cut0 7 [some (.ref 420), some (.int 0), none, none, none, none, none, none] [] Z I1 J o)) : zE (d + 2) kX12_cut0 0 [some (.ref 420), none, none, none, none, none, none, none] [] Z I J o := by
  refine ex_step (pc' := 1) dX12_cut0_0 rfl ?_
  refine ex_step (pc' := 2) (st' := [.int 0, .ref 420]) dX12_cut0_1 rfl ?_
  refine ex_putiN dX12_cut0_2 (wp_RX12_206 _) (ly_a420 hL) rfl ⟨rfl, rfl⟩ (fun I1 eI1 => ?_)
  have h := h I1 eI1
  refine ex_step (pc' := 6) (st' := [.int 0]) dX12_cut0_5 rfl ?_
  refine ex_step (pc' := 7) (ls' := [some (.ref 420), some (.int 0), none, none, none, none, none, none]) dX12_cut0_6 rfl ?_
  exact h
set_option maxHeartbeats 4000000 in
theorem BX12_cut0_7 {d : Nat} {Z : zZ} {I : zI} {J : zJ} {o : zO} {t u : Nat} (x1 : Int32) (hL : zLY Z t u)  (h : ((400 < (I 420 10) → o = (none, Z, I, J)) ∧ (¬ 400 < (I 420 10) → (∃ (v1 : Int32), zE (d + 1) kX12_byteAt 0 [some (.ref 420), some (.int x1)] [] Z I J (some (.int v1), Z, I, J) ∧ ((x1 < (I 420 4) → ((v1 = 9 → zE (d + 2) kX12_cut0 7 [some (.ref 420), some (.int (x1 + 1)), none, none, none, none, none, none] [] Z I J o) ∧ (¬ v1 = 9 → ((v1 = 10 → zE (d + 2) kX12_cut0 7 [some (.ref 420), some (.int (x1 + 1)), none, none, none, none, none, none] [] Z I J o) ∧ (¬ v1 = 10 → ((v1 = 13 → zE (d + 2) kX12_cut0 7 [some (.ref 420), some (.int (x1 + 1)), none, none, none, none, none, none] [] Z I J o) ∧ (¬ v1 = 13 → ((¬ v1 = 32 → (((zbi (97 ≤ v1 ∧ v1 ≤ 122)) = 0 → (((zbi (48 ≤ v1 ∧ v1 ≤ 57)) = 0 → (∃ (v2 : Int32), zE (d + 1) kX12_byteAt 0 [some (.ref 420), some (.int (x1 + 1))] [] Z I J (some (.int v2), Z, I, J) ∧ (∃ (v3 : Int32) (I4 : zI) (J5 : zJ), zE (d + 1) kX12_sign 0 [some (.ref 420), some (.int x1), some (.int v1), some (.int v2), none] [] Z I J (some (.int v3), Z, I4, J5) ∧ zE (d + 2) kX12_cut0 7 [some (.ref 420), some (.int (x1 + v3)), none, none, none, none, none, none] [] Z I4 J5 o))) ∧ (¬ (zbi (48 ≤ v1 ∧ v1 ≤ 57)) = 0 → zE (d + 2) kX12_cut0 208 [some (.ref 420), some (.int x1), none, some (.int 0), some (.int 0), none, none, none] [] Z I J o))) ∧ (¬ (zbi (97 ≤ v1 ∧ v1 ≤ 122)) = 0 → zE (d + 2) kX12_cut0 85 [some (.ref 420), some (.int x1), none, some (.int 0), some (.long 0), none, none, none] [] Z I J o))) ∧ (v1 = 32 → zE (d + 2) kX12_cut0 7 [some (.ref 420), some (.int (x1 + 1)), none, none, none, none, none, none] [] Z I J o))))))))) ∧ (¬ x1 < (I 420 4) → (∃ (I6 : zI) (J7 : zJ), zE (d + 1) kX12_token 0 [some (.ref 420), some (.int 0), some (.int (I 420 4)), some (.int 0), some (.long 0), none] [] Z I J (none, Z, I6, J7) ∧ o = (none, Z, I6, J7)))))))) : zE (d + 2) kX12_cut0 7 [some (.ref 420), some (.int x1), none, none, none, none, none, none] [] Z I J o := by
  refine ex_step (pc' := 8) dX12_cut0_7 rfl ?_
  refine ex_geti dX12_cut0_8 wf_RX12_206 (ly_a420 hL) rfl ?_
  refine ex_step (pc' := 14) (st' := [.int 400, .int (I 420 10)]) dX12_cut0_11 rfl ?_
  refine ex_icmp (pc' := 294) dX12_cut0_14 (by decide) (fun c => ?_) (fun c => ?_)
  · have h := h.1 c
    rw [h]; exact ex_ret (v := none) ⟨dX12_cut0_294, rfl⟩
  · have h := h.2 c
    refine ex_step (pc' := 18) dX12_cut0_17 rfl ?_
    refine ex_step (pc' := 19) dX12_cut0_18 rfl ?_
    obtain ⟨v1, hc, h⟩ := h
    refine ex_callV (as := [.int x1]) (st := []) (ci := 12) dX12_cut0_19 zmX12_byteAt zl_RX12_209 ziX12_byteAt zvX12_byteAt (by decide) (ly_a420 hL) rfl (Nat.le_of_ble_eq_true rfl) (Nat.le_of_ble_eq_true rfl) hc ?_
    refine ex_step (pc' := 23) (ls' := [some (.ref 420), some (.int x1), some (.int v1), none, none, none, none, none]) dX12_cut0_22 rfl ?_
    refine ex_step (pc' := 24) dX12_cut0_23 rfl ?_
    refine ex_step (pc' := 25) dX12_cut0_24 rfl ?_
    refine ex_geti dX12_cut0_25 wf_RX12_197 (ly_a420 hL) rfl ?_
    refine ex_icmp (pc' := 43) dX12_cut0_28 (by decide) (fun c => ?_) (fun c => ?_)
    · have h := h.1 c
      refine ex_step (pc' := 44) dX12_cut0_43 rfl ?_
      refine ex_step (pc' := 46) (st' := [.int 9, .int v1]) dX12_cut0_44 rfl ?_
      refine ex_icmp (pc' := 67) dX12_cut0_46 (by decide) (fun c => ?_) (fun c => ?_)
      · have h := h.1 c
        refine ex_step (pc' := 70) (ls' := [some (.ref 420), some (.int (x1 + 1)), some (.int v1), none, none, none, none, none]) dX12_cut0_67 rfl ?_
        refine ex_step (pc' := 291) dX12_cut0_70 rfl ?_
        refine ex_step (pc' := 7) dX12_cut0_291 rfl ?_
        exact ex_less (ls' := [some (.ref 420), some (.int (x1 + 1)), none, none, none, none, none, none]) ⟨rfl, ⟨rfl, trivial⟩⟩ h
      · have h := h.2 c
        refine ex_step (pc' := 50) dX12_cut0_49 rfl ?_
        refine ex_step (pc' := 52) (st' := [.int 10, .int v1]) dX12_cut0_50 rfl ?_
        refine ex_icmp (pc' := 67) dX12_cut0_52 (by decide) (fun c => ?_) (fun c => ?_)
        · have h := h.1 c
          refine ex_step (pc' := 70) (ls' := [some (.ref 420), some (.int (x1 + 1)), some (.int v1), none, none, none, none, none]) dX12_cut0_67 rfl ?_
          refine ex_step (pc' := 291) dX12_cut0_70 rfl ?_
          refine ex_step (pc' := 7) dX12_cut0_291 rfl ?_
          exact ex_less (ls' := [some (.ref 420), some (.int (x1 + 1)), none, none, none, none, none, none]) ⟨rfl, ⟨rfl, trivial⟩⟩ h
        · have h := h.2 c
          refine ex_step (pc' := 56) dX12_cut0_55 rfl ?_
          refine ex_step (pc' := 58) (st' := [.int 13, .int v1]) dX12_cut0_56 rfl ?_
          refine ex_icmp (pc' := 67) dX12_cut0_58 (by decide) (fun c => ?_) (fun c => ?_)
          · have h := h.1 c
            refine ex_step (pc' := 70) (ls' := [some (.ref 420), some (.int (x1 + 1)), some (.int v1), none, none, none, none, none]) dX12_cut0_67 rfl ?_
            refine ex_step (pc' := 291) dX12_cut0_70 rfl ?_
            refine ex_step (pc' := 7) dX12_cut0_291 rfl ?_
            exact ex_less (ls' := [some (.ref 420), some (.int (x1 + 1)), none, none, none, none, none, none]) ⟨rfl, ⟨rfl, trivial⟩⟩ h
          · have h := h.2 c
            refine ex_step (pc' := 62) dX12_cut0_61 rfl ?_
            refine ex_step (pc' := 64) (st' := [.int 32, .int v1]) dX12_cut0_62 rfl ?_
            refine ex_icmp (pc' := 73) dX12_cut0_64 (by decide) (fun c => ?_) (fun c => ?_)
            · have h := h.1 c
              refine ex_step (pc' := 74) dX12_cut0_73 rfl ?_
              refine ex_callS (as := [.int v1]) (st := []) dX12_cut0_74 zmX12_isLetter zl_RX12_217 zsX12_isLetter rfl (Nat.le_of_ble_eq_true rfl) (Nat.le_of_ble_eq_true rfl) M_isLetter ?_
              refine ex_if (pc' := 196) dX12_cut0_77 (by decide) (fun c => ?_) (fun c => ?_)
              · have h := h.1 c
                refine ex_step (pc' := 197) dX12_cut0_196 rfl ?_
                refine ex_callS (as := [.int v1]) (st := []) dX12_cut0_197 zmX12_isDigit zl_RX12_221 zsX12_isDigit rfl (Nat.le_of_ble_eq_true rfl) (Nat.le_of_ble_eq_true rfl) M_isDigit ?_
                refine ex_if (pc' := 275) dX12_cut0_200 (by decide) (fun c => ?_) (fun c => ?_)
                · have h := h.1 c
                  refine ex_step (pc' := 276) dX12_cut0_275 rfl ?_
                  refine ex_step (pc' := 277) dX12_cut0_276 rfl ?_
                  refine ex_step (pc' := 278) dX12_cut0_277 rfl ?_
                  refine ex_step (pc' := 279) dX12_cut0_278 rfl ?_
                  refine ex_step (pc' := 280) dX12_cut0_279 rfl ?_
                  refine ex_step (pc' := 281) dX12_cut0_280 rfl ?_
                  refine ex_step (pc' := 282) (st' := [.int 1, .int x1, .ref 420, .int v1, .int x1, .ref 420, .int x1]) dX12_cut0_281 rfl ?_
                  refine ex_step (pc' := 283) dX12_cut0_282 rfl ?_
                  obtain ⟨v2, hc, h⟩ := h
                  refine ex_callV (as := [.int (x1 + 1)]) (st := [.int v1, .int x1, .ref 420, .int x1]) (ci := 12) dX12_cut0_283 zmX12_byteAt zl_RX12_209 ziX12_byteAt zvX12_byteAt (by decide) (ly_a420 hL) rfl (Nat.le_of_ble_eq_true rfl) (Nat.le_of_ble_eq_true rfl) hc ?_
                  obtain ⟨v3, I4, J5, hc, h⟩ := h
                  refine ex_callV (as := [.int x1, .int v1, .int v2]) (st := [.int x1]) (ci := 12) dX12_cut0_286 zmX12_sign zl_RX12_224 ziX12_sign zvX12_sign (by decide) (ly_a420 hL) rfl (Nat.le_of_ble_eq_true rfl) (Nat.le_of_ble_eq_true rfl) hc ?_
                  refine ex_step (pc' := 290) dX12_cut0_289 rfl ?_
                  refine ex_step (pc' := 291) (ls' := [some (.ref 420), some (.int (x1 + v3)), some (.int v1), none, none, none, none, none]) dX12_cut0_290 rfl ?_
                  refine ex_step (pc' := 7) dX12_cut0_291 rfl ?_
                  exact ex_less (ls' := [some (.ref 420), some (.int (x1 + v3)), none, none, none, none, none, none]) ⟨rfl, ⟨rfl, trivial⟩⟩ h
                · have h := h.2 c
                  refine ex_step (pc' := 204) (st' := [.int 0]) dX12_cut0_203 rfl ?_
                  refine ex_step (pc' := 205) (ls' := [some (.ref 420), some (.int x1), some (.int v1), some (.int 0), none, none, none, none]) dX12_cut0_204 rfl ?_
                  refine ex_step (pc' := 206) (st' := [.int 0]) dX12_cut0_205 rfl ?_
                  refine ex_step (pc' := 208) (ls' := [some (.ref 420), some (.int x1), some (.int v1), some (.int 0), some (.int 0), none, none, none]) dX12_cut0_206 rfl ?_
                  exact ex_less (ls' := [some (.ref 420), some (.int x1), none, some (.int 0), some (.int 0), none, none, none]) ⟨rfl, ⟨rfl, ⟨rfl, ⟨rfl, trivial⟩⟩⟩⟩ h
              · have h := h.2 c
                refine ex_step (pc' := 81) (st' := [.int 0]) dX12_cut0_80 rfl ?_
                refine ex_step (pc' := 82) (ls' := [some (.ref 420), some (.int x1), some (.int v1), some (.int 0), none, none, none, none]) dX12_cut0_81 rfl ?_
                refine ex_step (pc' := 83) (st' := [.long 0]) dX12_cut0_82 rfl ?_
                refine ex_step (pc' := 85) (ls' := [some (.ref 420), some (.int x1), some (.int v1), some (.int 0), some (.long 0), none, none, none]) dX12_cut0_83 rfl ?_
                exact ex_less (ls' := [some (.ref 420), some (.int x1), none, some (.int 0), some (.long 0), none, none, none]) ⟨rfl, ⟨rfl, ⟨rfl, ⟨rfl, trivial⟩⟩⟩⟩ h
            · have h := h.2 (Classical.not_not.mp c)
              refine ex_step (pc' := 70) (ls' := [some (.ref 420), some (.int (x1 + 1)), some (.int v1), none, none, none, none, none]) dX12_cut0_67 rfl ?_
              refine ex_step (pc' := 291) dX12_cut0_70 rfl ?_
              refine ex_step (pc' := 7) dX12_cut0_291 rfl ?_
              exact ex_less (ls' := [some (.ref 420), some (.int (x1 + 1)), none, none, none, none, none, none]) ⟨rfl, ⟨rfl, trivial⟩⟩ h
    · have h := h.2 c
      refine ex_step (pc' := 32) dX12_cut0_31 rfl ?_
      refine ex_step (pc' := 33) (st' := [.int 0, .ref 420]) dX12_cut0_32 rfl ?_
      refine ex_step (pc' := 34) dX12_cut0_33 rfl ?_
      refine ex_geti dX12_cut0_34 wf_RX12_197 (ly_a420 hL) rfl ?_
      refine ex_step (pc' := 38) (st' := [.int 0, .int (I 420 4), .int 0, .ref 420]) dX12_cut0_37 rfl ?_
      refine ex_step (pc' := 39) (st' := [.long 0, .int 0, .int (I 420 4), .int 0, .ref 420]) dX12_cut0_38 rfl ?_
      obtain ⟨I6, J7, hc, h⟩ := h
      refine ex_callV (as := [.int 0, .int (I 420 4), .int 0, .long 0]) (st := []) (ci := 12) dX12_cut0_39 zmX12_token zl_RX12_213 ziX12_token zvX12_token (by decide) (ly_a420 hL) rfl (Nat.le_of_ble_eq_true rfl) (Nat.le_of_ble_eq_true rfl) hc ?_
      rw [h]; exact ex_ret (v := none) ⟨dX12_cut0_42, rfl⟩
set_option maxHeartbeats 4000000 in
theorem BX12_cut0_85 {d : Nat} {Z : zZ} {I : zI} {J : zJ} {o : zO} {t u : Nat} (x1 : Int32) (x3 : Int32) (w4 : Int64) (hL : zLY Z t u)  (h : (∃ (v1 : Int32), zE (d + 1) kX12_byteAt 0 [some (.ref 420), some (.int (x1 + x3))] [] Z I J (some (.int v1), Z, I, J) ∧ (((zbi (97 ≤ v1 ∧ v1 ≤ 122)) = 0 → ((x3 ≤ 8 → ((7 < x3 → (∃ (I2 : zI) (J3 : zJ), zE (d + 1) kX12_token 0 [some (.ref 420), some (.int 1), some (.int x1), some (.int 0), some (.long w4), none] [] Z I J (none, Z, I2, J3) ∧ zE (d + 2) kX12_cut0 7 [some (.ref 420), some (.int (x1 + x3)), none, none, none, none, none, none] [] Z I2 J3 o)) ∧ (¬ 7 < x3 → zE (d + 2) kX12_cut0 146 [some (.ref 420), some (.int x1), none, some (.int x3), some (.long w4), none, some (.int 1), some (.int 0)] [] Z I J o))) ∧ (¬ x3 ≤ 8 → ((7 < x3 → (∃ (I4 : zI) (J5 : zJ), zE (d + 1) kX12_token 0 [some (.ref 420), some (.int 3), some (.int x1), some (.int 0), some (.long w4), none] [] Z I J (none, Z, I4, J5) ∧ zE (d + 2) kX12_cut0 7 [some (.ref 420), some (.int (x1 + x3)), none, none, none, none, none, none] [] Z I4 J5 o)) ∧ (¬ 7 < x3 → zE (d + 2) kX12_cut0 146 [some (.ref 420), some (.int x1), none, some (.int x3), some (.long w4), none, some (.int 3), some (.int 0)] [] Z I J o))))) ∧ (¬ (zbi (97 ≤ v1 ∧ v1 ≤ 122)) = 0 → ((8 ≤ x3 → zE (d + 2) kX12_cut0 85 [some (.ref 420), some (.int x1), none, some (.int (x3 + 1)), some (.long w4), none, none, none] [] Z I J o) ∧ (¬ 8 ≤ x3 → (∃ (v6 : Int32), zE (d + 1) kX12_byteAt 0 [some (.ref 420), some (.int (x1 + x3))] [] Z I J (some (.int v6), Z, I, J) ∧ zE (d + 2) kX12_cut0 85 [some (.ref 420), some (.int x1), none, some (.int (x3 + 1)), some (.long (zapp w4 v6)), none, none, none] [] Z I J o))))))) : zE (d + 2) kX12_cut0 85 [some (.ref 420), some (.int x1), none, some (.int x3), some (.long w4), none, none, none] [] Z I J o := by
  refine ex_step (pc' := 86) dX12_cut0_85 rfl ?_
  refine ex_step (pc' := 87) dX12_cut0_86 rfl ?_
  refine ex_step (pc' := 88) dX12_cut0_87 rfl ?_
  refine ex_step (pc' := 89) dX12_cut0_88 rfl ?_
  obtain ⟨v1, hc, h⟩ := h
  refine ex_callV (as := [.int (x1 + x3)]) (st := []) (ci := 12) dX12_cut0_89 zmX12_byteAt zl_RX12_209 ziX12_byteAt zvX12_byteAt (by decide) (ly_a420 hL) rfl (Nat.le_of_ble_eq_true rfl) (Nat.le_of_ble_eq_true rfl) hc ?_
  refine ex_callS (as := [.int v1]) (st := []) dX12_cut0_92 zmX12_isLetter zl_RX12_217 zsX12_isLetter rfl (Nat.le_of_ble_eq_true rfl) (Nat.le_of_ble_eq_true rfl) M_isLetter ?_
  refine ex_if (pc' := 124) dX12_cut0_95 (by decide) (fun c => ?_) (fun c => ?_)
  · have h := h.1 c
    refine ex_step (pc' := 125) dX12_cut0_124 rfl ?_
    refine ex_step (pc' := 127) (st' := [.int 8, .int x3]) dX12_cut0_125 rfl ?_
    refine ex_icmp (pc' := 134) dX12_cut0_127 (by decide) (fun c => ?_) (fun c => ?_)
    · have h := h.1 c
      refine ex_step (pc' := 135) (st' := [.int 1]) dX12_cut0_134 rfl ?_
      refine ex_step (pc' := 137) (ls' := [some (.ref 420), some (.int x1), none, some (.int x3), some (.long w4), none, some (.int 1), none]) dX12_cut0_135 rfl ?_
      refine ex_step (pc' := 138) dX12_cut0_137 rfl ?_
      refine ex_step (pc' := 140) (st' := [.int 7, .int x3]) dX12_cut0_138 rfl ?_
      refine ex_icmp (pc' := 179) dX12_cut0_140 (by decide) (fun c => ?_) (fun c => ?_)
      · have h := h.1 c
        refine ex_step (pc' := 180) dX12_cut0_179 rfl ?_
        refine ex_step (pc' := 182) dX12_cut0_180 rfl ?_
        refine ex_step (pc' := 183) dX12_cut0_182 rfl ?_
        refine ex_step (pc' := 184) (st' := [.int 0, .int x1, .int 1, .ref 420]) dX12_cut0_183 rfl ?_
        refine ex_step (pc' := 186) dX12_cut0_184 rfl ?_
        obtain ⟨I2, J3, hc, h⟩ := h
        refine ex_callV (as := [.int 1, .int x1, .int 0, .long w4]) (st := []) (ci := 12) dX12_cut0_186 zmX12_token zl_RX12_213 ziX12_token zvX12_token (by decide) (ly_a420 hL) rfl (Nat.le_of_ble_eq_true rfl) (Nat.le_of_ble_eq_true rfl) hc ?_
        refine ex_step (pc' := 190) dX12_cut0_189 rfl ?_
        refine ex_step (pc' := 191) dX12_cut0_190 rfl ?_
        refine ex_step (pc' := 192) dX12_cut0_191 rfl ?_
        refine ex_step (pc' := 193) (ls' := [some (.ref 420), some (.int (x1 + x3)), none, some (.int x3), some (.long w4), none, some (.int 1), none]) dX12_cut0_192 rfl ?_
        refine ex_step (pc' := 291) dX12_cut0_193 rfl ?_
        refine ex_step (pc' := 7) dX12_cut0_291 rfl ?_
        exact ex_less (ls' := [some (.ref 420), some (.int (x1 + x3)), none, none, none, none, none, none]) ⟨rfl, ⟨rfl, trivial⟩⟩ h
      · have h := h.2 c
        refine ex_step (pc' := 144) (st' := [.int 0]) dX12_cut0_143 rfl ?_
        refine ex_step (pc' := 146) (ls' := [some (.ref 420), some (.int x1), none, some (.int x3), some (.long w4), none, some (.int 1), some (.int 0)]) dX12_cut0_144 rfl ?_
        exact h
    · have h := h.2 c
      refine ex_step (pc' := 131) (st' := [.int 3]) dX12_cut0_130 rfl ?_
      refine ex_step (pc' := 135) dX12_cut0_131 rfl ?_
      refine ex_step (pc' := 137) (ls' := [some (.ref 420), some (.int x1), none, some (.int x3), some (.long w4), none, some (.int 3), none]) dX12_cut0_135 rfl ?_
      refine ex_step (pc' := 138) dX12_cut0_137 rfl ?_
      refine ex_step (pc' := 140) (st' := [.int 7, .int x3]) dX12_cut0_138 rfl ?_
      refine ex_icmp (pc' := 179) dX12_cut0_140 (by decide) (fun c => ?_) (fun c => ?_)
      · have h := h.1 c
        refine ex_step (pc' := 180) dX12_cut0_179 rfl ?_
        refine ex_step (pc' := 182) dX12_cut0_180 rfl ?_
        refine ex_step (pc' := 183) dX12_cut0_182 rfl ?_
        refine ex_step (pc' := 184) (st' := [.int 0, .int x1, .int 3, .ref 420]) dX12_cut0_183 rfl ?_
        refine ex_step (pc' := 186) dX12_cut0_184 rfl ?_
        obtain ⟨I4, J5, hc, h⟩ := h
        refine ex_callV (as := [.int 3, .int x1, .int 0, .long w4]) (st := []) (ci := 12) dX12_cut0_186 zmX12_token zl_RX12_213 ziX12_token zvX12_token (by decide) (ly_a420 hL) rfl (Nat.le_of_ble_eq_true rfl) (Nat.le_of_ble_eq_true rfl) hc ?_
        refine ex_step (pc' := 190) dX12_cut0_189 rfl ?_
        refine ex_step (pc' := 191) dX12_cut0_190 rfl ?_
        refine ex_step (pc' := 192) dX12_cut0_191 rfl ?_
        refine ex_step (pc' := 193) (ls' := [some (.ref 420), some (.int (x1 + x3)), none, some (.int x3), some (.long w4), none, some (.int 3), none]) dX12_cut0_192 rfl ?_
        refine ex_step (pc' := 291) dX12_cut0_193 rfl ?_
        refine ex_step (pc' := 7) dX12_cut0_291 rfl ?_
        exact ex_less (ls' := [some (.ref 420), some (.int (x1 + x3)), none, none, none, none, none, none]) ⟨rfl, ⟨rfl, trivial⟩⟩ h
      · have h := h.2 c
        refine ex_step (pc' := 144) (st' := [.int 0]) dX12_cut0_143 rfl ?_
        refine ex_step (pc' := 146) (ls' := [some (.ref 420), some (.int x1), none, some (.int x3), some (.long w4), none, some (.int 3), some (.int 0)]) dX12_cut0_144 rfl ?_
        exact h
  · have h := h.2 c
    refine ex_step (pc' := 99) dX12_cut0_98 rfl ?_
    refine ex_step (pc' := 101) (st' := [.int 8, .int x3]) dX12_cut0_99 rfl ?_
    refine ex_icmp (pc' := 118) dX12_cut0_101 (by decide) (fun c => ?_) (fun c => ?_)
    · have h := h.1 c
      refine ex_step (pc' := 121) (ls' := [some (.ref 420), some (.int x1), none, some (.int (x3 + 1)), some (.long w4), none, none, none]) dX12_cut0_118 rfl ?_
      refine ex_step (pc' := 85) dX12_cut0_121 rfl ?_
      exact h
    · have h := h.2 c
      refine ex_step (pc' := 106) dX12_cut0_104 rfl ?_
      refine ex_step (pc' := 107) dX12_cut0_106 rfl ?_
      refine ex_step (pc' := 108) dX12_cut0_107 rfl ?_
      refine ex_step (pc' := 109) dX12_cut0_108 rfl ?_
      refine ex_step (pc' := 110) dX12_cut0_109 rfl ?_
      obtain ⟨v6, hc, h⟩ := h
      refine ex_callV (as := [.int (x1 + x3)]) (st := [.long w4]) (ci := 12) dX12_cut0_110 zmX12_byteAt zl_RX12_209 ziX12_byteAt zvX12_byteAt (by decide) (ly_a420 hL) rfl (Nat.le_of_ble_eq_true rfl) (Nat.le_of_ble_eq_true rfl) hc ?_
      refine ex_callS (as := [.long w4, .int v6]) (st := []) dX12_cut0_113 zmX12_appends zl_RX12_202 zsX12_appends rfl (Nat.le_of_ble_eq_true rfl) (Nat.le_of_ble_eq_true rfl) M_appends ?_
      refine ex_step (pc' := 118) (ls' := [some (.ref 420), some (.int x1), none, some (.int x3), some (.long (zapp w4 v6)), none, none, none]) dX12_cut0_116 rfl ?_
      refine ex_step (pc' := 121) (ls' := [some (.ref 420), some (.int x1), none, some (.int (x3 + 1)), some (.long (zapp w4 v6)), none, none, none]) dX12_cut0_118 rfl ?_
      refine ex_step (pc' := 85) dX12_cut0_121 rfl ?_
      exact h
set_option maxHeartbeats 4000000 in
theorem BX12_cut0_146 {d : Nat} {Z : zZ} {I : zI} {J : zJ} {o : zO} {t u : Nat} (x1 : Int32) (x3 : Int32) (w4 : Int64) (x6 : Int32) (x7 : Int32) (hL : zLY Z t u)  (h : ((17 ≤ x7 → (∃ (I1 : zI) (J2 : zJ), zE (d + 1) kX12_token 0 [some (.ref 420), some (.int x6), some (.int x1), some (.int 0), some (.long w4), none] [] Z I J (none, Z, I1, J2) ∧ zE (d + 2) kX12_cut0 7 [some (.ref 420), some (.int (x1 + x3)), none, none, none, none, none, none] [] Z I1 J2 o)) ∧ (¬ 17 ≤ x7 → (vp_in x7 17 ∧ ((¬ (lg_cmp (J 427 x7.toNatClampNeg) w4) = 0 → zE (d + 2) kX12_cut0 146 [some (.ref 420), some (.int x1), none, some (.int x3), some (.long w4), none, some (.int x6), some (.int (x7 + 1))] [] Z I J o) ∧ ((lg_cmp (J 427 x7.toNatClampNeg) w4) = 0 → zE (d + 2) kX12_cut0 146 [some (.ref 420), some (.int x1), none, some (.int x3), some (.long w4), none, some (.int ((20 : Int32) + x7)), some (.int (x7 + 1))] [] Z I J o)))))) : zE (d + 2) kX12_cut0 146 [some (.ref 420), some (.int x1), none, some (.int x3), some (.long w4), none, some (.int x6), some (.int x7)] [] Z I J o := by
  refine ex_step (pc' := 148) dX12_cut0_146 rfl ?_
  refine ex_step (pc' := 150) (st' := [.int 17, .int x7]) dX12_cut0_148 rfl ?_
  refine ex_icmp (pc' := 179) dX12_cut0_150 (by decide) (fun c => ?_) (fun c => ?_)
  · have h := h.1 c
    refine ex_step (pc' := 180) dX12_cut0_179 rfl ?_
    refine ex_step (pc' := 182) dX12_cut0_180 rfl ?_
    refine ex_step (pc' := 183) dX12_cut0_182 rfl ?_
    refine ex_step (pc' := 184) (st' := [.int 0, .int x1, .int x6, .ref 420]) dX12_cut0_183 rfl ?_
    refine ex_step (pc' := 186) dX12_cut0_184 rfl ?_
    obtain ⟨I1, J2, hc, h⟩ := h
    refine ex_callV (as := [.int x6, .int x1, .int 0, .long w4]) (st := []) (ci := 12) dX12_cut0_186 zmX12_token zl_RX12_213 ziX12_token zvX12_token (by decide) (ly_a420 hL) rfl (Nat.le_of_ble_eq_true rfl) (Nat.le_of_ble_eq_true rfl) hc ?_
    refine ex_step (pc' := 190) dX12_cut0_189 rfl ?_
    refine ex_step (pc' := 191) dX12_cut0_190 rfl ?_
    refine ex_step (pc' := 192) dX12_cut0_191 rfl ?_
    refine ex_step (pc' := 193) (ls' := [some (.ref 420), some (.int (x1 + x3)), none, some (.int x3), some (.long w4), none, some (.int x6), some (.int x7)]) dX12_cut0_192 rfl ?_
    refine ex_step (pc' := 291) dX12_cut0_193 rfl ?_
    refine ex_step (pc' := 7) dX12_cut0_291 rfl ?_
    exact ex_less (ls' := [some (.ref 420), some (.int (x1 + x3)), none, none, none, none, none, none]) ⟨rfl, ⟨rfl, trivial⟩⟩ h
  · have h := h.2 c
    refine ex_step (pc' := 154) dX12_cut0_153 rfl ?_
    refine ex_getr dX12_cut0_154 wf_RX12_34 (ly_a420 hL) rfl (ly_r420_9 hL) ?_
    refine ex_step (pc' := 159) dX12_cut0_157 rfl ?_
    obtain ⟨hv, h⟩ := h
    refine ex_lald dX12_cut0_159 (ly_a427 hL) hv ?_
    refine ex_step (pc' := 162) dX12_cut0_160 rfl ?_
    refine ex_step (pc' := 163) dX12_cut0_162 rfl ?_
    refine ex_if (pc' := 173) dX12_cut0_163 (by decide) (fun c => ?_) (fun c => ?_)
    · have h := h.1 c
      refine ex_step (pc' := 176) (ls' := [some (.ref 420), some (.int x1), none, some (.int x3), some (.long w4), none, some (.int x6), some (.int (x7 + 1))]) dX12_cut0_173 rfl ?_
      refine ex_step (pc' := 146) dX12_cut0_176 rfl ?_
      exact h
    · have h := h.2 (Classical.not_not.mp c)
      refine ex_step (pc' := 168) (st' := [.int 20]) dX12_cut0_166 rfl ?_
      refine ex_step (pc' := 170) dX12_cut0_168 rfl ?_
      refine ex_step (pc' := 171) dX12_cut0_170 rfl ?_
      refine ex_step (pc' := 173) (ls' := [some (.ref 420), some (.int x1), none, some (.int x3), some (.long w4), none, some (.int ((20 : Int32) + x7)), some (.int x7)]) dX12_cut0_171 rfl ?_
      refine ex_step (pc' := 176) (ls' := [some (.ref 420), some (.int x1), none, some (.int x3), some (.long w4), none, some (.int ((20 : Int32) + x7)), some (.int (x7 + 1))]) dX12_cut0_173 rfl ?_
      refine ex_step (pc' := 146) dX12_cut0_176 rfl ?_
      exact h
set_option maxHeartbeats 4000000 in
theorem BX12_cut0_208 {d : Nat} {Z : zZ} {I : zI} {J : zJ} {o : zO} {t u : Nat} (x1 : Int32) (x3 : Int32) (x4 : Int32) (hL : zLY Z t u)  (h : (∃ (v1 : Int32), zE (d + 1) kX12_byteAt 0 [some (.ref 420), some (.int (x1 + x3))] [] Z I J (some (.int v1), Z, I, J) ∧ (((zbi (48 ≤ v1 ∧ v1 ≤ 57)) = 0 → ((x3 ≤ 4 → (∃ (I2 : zI) (J3 : zJ), zE (d + 1) kX12_token 0 [some (.ref 420), some (.int 2), some (.int x1), some (.int x4), some (.long 0), none] [] Z I J (none, Z, I2, J3) ∧ zE (d + 2) kX12_cut0 7 [some (.ref 420), some (.int (x1 + x3)), none, none, none, none, none, none] [] Z I2 J3 o)) ∧ (¬ x3 ≤ 4 → (∃ (I4 : zI) (J5 : zJ), zE (d + 1) kX12_token 0 [some (.ref 420), some (.int 3), some (.int x1), some (.int x4), some (.long 0), none] [] Z I J (none, Z, I4, J5) ∧ zE (d + 2) kX12_cut0 7 [some (.ref 420), some (.int (x1 + x3)), none, none, none, none, none, none] [] Z I4 J5 o)))) ∧ (¬ (zbi (48 ≤ v1 ∧ v1 ≤ 57)) = 0 → ((4 ≤ x3 → zE (d + 2) kX12_cut0 208 [some (.ref 420), some (.int x1), none, some (.int (x3 + 1)), some (.int x4), none, none, none] [] Z I J o) ∧ (¬ 4 ≤ x3 → (∃ (v6 : Int32), zE (d + 1) kX12_byteAt 0 [some (.ref 420), some (.int (x1 + x3))] [] Z I J (some (.int v6), Z, I, J) ∧ (∀ y7 : Int32, y7 = ((((10 : Int32) * x4) + v6) - 48) → zE (d + 2) kX12_cut0 208 [some (.ref 420), some (.int x1), none, some (.int (x3 + 1)), some (.int y7), none, none, none] [] Z I J o)))))))) : zE (d + 2) kX12_cut0 208 [some (.ref 420), some (.int x1), none, some (.int x3), some (.int x4), none, none, none] [] Z I J o := by
  refine ex_step (pc' := 209) dX12_cut0_208 rfl ?_
  refine ex_step (pc' := 210) dX12_cut0_209 rfl ?_
  refine ex_step (pc' := 211) dX12_cut0_210 rfl ?_
  refine ex_step (pc' := 212) dX12_cut0_211 rfl ?_
  obtain ⟨v1, hc, h⟩ := h
  refine ex_callV (as := [.int (x1 + x3)]) (st := []) (ci := 12) dX12_cut0_212 zmX12_byteAt zl_RX12_209 ziX12_byteAt zvX12_byteAt (by decide) (ly_a420 hL) rfl (Nat.le_of_ble_eq_true rfl) (Nat.le_of_ble_eq_true rfl) hc ?_
  refine ex_callS (as := [.int v1]) (st := []) dX12_cut0_215 zmX12_isDigit zl_RX12_221 zsX12_isDigit rfl (Nat.le_of_ble_eq_true rfl) (Nat.le_of_ble_eq_true rfl) M_isDigit ?_
  refine ex_if (pc' := 250) dX12_cut0_218 (by decide) (fun c => ?_) (fun c => ?_)
  · have h := h.1 c
    refine ex_step (pc' := 251) dX12_cut0_250 rfl ?_
    refine ex_step (pc' := 252) dX12_cut0_251 rfl ?_
    refine ex_step (pc' := 253) (st' := [.int 4, .int x3, .ref 420]) dX12_cut0_252 rfl ?_
    refine ex_icmp (pc' := 260) dX12_cut0_253 (by decide) (fun c => ?_) (fun c => ?_)
    · have h := h.1 c
      refine ex_step (pc' := 261) (st' := [.int 2, .ref 420]) dX12_cut0_260 rfl ?_
      refine ex_step (pc' := 262) dX12_cut0_261 rfl ?_
      refine ex_step (pc' := 264) dX12_cut0_262 rfl ?_
      refine ex_step (pc' := 265) (st' := [.long 0, .int x4, .int x1, .int 2, .ref 420]) dX12_cut0_264 rfl ?_
      obtain ⟨I2, J3, hc, h⟩ := h
      refine ex_callV (as := [.int 2, .int x1, .int x4, .long 0]) (st := []) (ci := 12) dX12_cut0_265 zmX12_token zl_RX12_213 ziX12_token zvX12_token (by decide) (ly_a420 hL) rfl (Nat.le_of_ble_eq_true rfl) (Nat.le_of_ble_eq_true rfl) hc ?_
      refine ex_step (pc' := 269) dX12_cut0_268 rfl ?_
      refine ex_step (pc' := 270) dX12_cut0_269 rfl ?_
      refine ex_step (pc' := 271) dX12_cut0_270 rfl ?_
      refine ex_step (pc' := 272) (ls' := [some (.ref 420), some (.int (x1 + x3)), none, some (.int x3), some (.int x4), none, none, none]) dX12_cut0_271 rfl ?_
      refine ex_step (pc' := 291) dX12_cut0_272 rfl ?_
      refine ex_step (pc' := 7) dX12_cut0_291 rfl ?_
      exact ex_less (ls' := [some (.ref 420), some (.int (x1 + x3)), none, none, none, none, none, none]) ⟨rfl, ⟨rfl, trivial⟩⟩ h
    · have h := h.2 c
      refine ex_step (pc' := 257) (st' := [.int 3, .ref 420]) dX12_cut0_256 rfl ?_
      refine ex_step (pc' := 261) dX12_cut0_257 rfl ?_
      refine ex_step (pc' := 262) dX12_cut0_261 rfl ?_
      refine ex_step (pc' := 264) dX12_cut0_262 rfl ?_
      refine ex_step (pc' := 265) (st' := [.long 0, .int x4, .int x1, .int 3, .ref 420]) dX12_cut0_264 rfl ?_
      obtain ⟨I4, J5, hc, h⟩ := h
      refine ex_callV (as := [.int 3, .int x1, .int x4, .long 0]) (st := []) (ci := 12) dX12_cut0_265 zmX12_token zl_RX12_213 ziX12_token zvX12_token (by decide) (ly_a420 hL) rfl (Nat.le_of_ble_eq_true rfl) (Nat.le_of_ble_eq_true rfl) hc ?_
      refine ex_step (pc' := 269) dX12_cut0_268 rfl ?_
      refine ex_step (pc' := 270) dX12_cut0_269 rfl ?_
      refine ex_step (pc' := 271) dX12_cut0_270 rfl ?_
      refine ex_step (pc' := 272) (ls' := [some (.ref 420), some (.int (x1 + x3)), none, some (.int x3), some (.int x4), none, none, none]) dX12_cut0_271 rfl ?_
      refine ex_step (pc' := 291) dX12_cut0_272 rfl ?_
      refine ex_step (pc' := 7) dX12_cut0_291 rfl ?_
      exact ex_less (ls' := [some (.ref 420), some (.int (x1 + x3)), none, none, none, none, none, none]) ⟨rfl, ⟨rfl, trivial⟩⟩ h
  · have h := h.2 c
    refine ex_step (pc' := 222) dX12_cut0_221 rfl ?_
    refine ex_step (pc' := 223) (st' := [.int 4, .int x3]) dX12_cut0_222 rfl ?_
    refine ex_icmp (pc' := 244) dX12_cut0_223 (by decide) (fun c => ?_) (fun c => ?_)
    · have h := h.1 c
      refine ex_step (pc' := 247) (ls' := [some (.ref 420), some (.int x1), none, some (.int (x3 + 1)), some (.int x4), none, none, none]) dX12_cut0_244 rfl ?_
      refine ex_step (pc' := 208) dX12_cut0_247 rfl ?_
      exact h
    · have h := h.2 c
      refine ex_step (pc' := 228) (st' := [.int 10]) dX12_cut0_226 rfl ?_
      refine ex_step (pc' := 230) dX12_cut0_228 rfl ?_
      refine ex_step (pc' := 231) dX12_cut0_230 rfl ?_
      refine ex_step (pc' := 232) dX12_cut0_231 rfl ?_
      refine ex_step (pc' := 233) dX12_cut0_232 rfl ?_
      refine ex_step (pc' := 234) dX12_cut0_233 rfl ?_
      refine ex_step (pc' := 235) dX12_cut0_234 rfl ?_
      obtain ⟨v6, hc, h⟩ := h
      refine ex_callV (as := [.int (x1 + x3)]) (st := [.int ((10 : Int32) * x4)]) (ci := 12) dX12_cut0_235 zmX12_byteAt zl_RX12_209 ziX12_byteAt zvX12_byteAt (by decide) (ly_a420 hL) rfl (Nat.le_of_ble_eq_true rfl) (Nat.le_of_ble_eq_true rfl) hc ?_
      refine ex_step (pc' := 239) dX12_cut0_238 rfl ?_
      refine ex_step (pc' := 241) (st' := [.int 48, .int (((10 : Int32) * x4) + v6)]) dX12_cut0_239 rfl ?_
      refine ex_step (pc' := 242) dX12_cut0_241 rfl ?_
      refine ex_topi (fun y7 ey7 => ?_)
      have h := h y7 ey7
      refine ex_step (pc' := 244) (ls' := [some (.ref 420), some (.int x1), none, some (.int x3), some (.int y7), none, none, none]) dX12_cut0_242 rfl ?_
      refine ex_step (pc' := 247) (ls' := [some (.ref 420), some (.int x1), none, some (.int (x3 + 1)), some (.int y7), none, none, none]) dX12_cut0_244 rfl ?_
      refine ex_step (pc' := 208) dX12_cut0_247 rfl ?_
      exact h
set_option maxHeartbeats 4000000 in
theorem BX12_sign_0 {d : Nat} {Z : zZ} {I : zI} {J : zJ} {o : zO} {t u : Nat} (x1 : Int32) (x2 : Int32) (x3 : Int32) (hL : zLY Z t u)  (h : ((¬ x2 = 59 → ((¬ x2 = 61 → ((¬ x2 = 40 → ((¬ x2 = 41 → ((¬ x2 = 43 → zE (d + 1) kX12_sign 55 [some (.ref 420), some (.int x1), some (.int x2), none, some (.int 3)] [] Z I J o) ∧ (x2 = 43 → zE (d + 1) kX12_sign 55 [some (.ref 420), some (.int x1), some (.int x2), none, some (.int 8)] [] Z I J o))) ∧ (x2 = 41 → ((¬ x2 = 43 → zE (d + 1) kX12_sign 55 [some (.ref 420), some (.int x1), some (.int x2), none, some (.int 7)] [] Z I J o) ∧ (x2 = 43 → zE (d + 1) kX12_sign 55 [some (.ref 420), some (.int x1), some (.int x2), none, some (.int 8)] [] Z I J o))))) ∧ (x2 = 40 → ((¬ x2 = 43 → zE (d + 1) kX12_sign 55 [some (.ref 420), some (.int x1), some (.int x2), none, some (.int 6)] [] Z I J o) ∧ (x2 = 43 → zE (d + 1) kX12_sign 55 [some (.ref 420), some (.int x1), some (.int x2), none, some (.int 8)] [] Z I J o))))) ∧ (x2 = 61 → ((¬ x2 = 43 → zE (d + 1) kX12_sign 55 [some (.ref 420), some (.int x1), some (.int x2), none, some (.int 5)] [] Z I J o) ∧ (x2 = 43 → zE (d + 1) kX12_sign 55 [some (.ref 420), some (.int x1), some (.int x2), none, some (.int 8)] [] Z I J o))))) ∧ (x2 = 59 → ((¬ x2 = 43 → zE (d + 1) kX12_sign 55 [some (.ref 420), some (.int x1), some (.int x2), none, some (.int 4)] [] Z I J o) ∧ (x2 = 43 → zE (d + 1) kX12_sign 55 [some (.ref 420), some (.int x1), some (.int x2), none, some (.int 8)] [] Z I J o))))) : zE (d + 1) kX12_sign 0 [some (.ref 420), some (.int x1), some (.int x2), some (.int x3), none] [] Z I J o := by
  refine ex_step (pc' := 1) dX12_sign_0 rfl ?_
  refine ex_step (pc' := 3) (st' := [.int 59, .int x2]) dX12_sign_1 rfl ?_
  refine ex_icmp (pc' := 10) dX12_sign_3 (by decide) (fun c => ?_) (fun c => ?_)
  · have h := h.1 c
    refine ex_step (pc' := 11) dX12_sign_10 rfl ?_
    refine ex_step (pc' := 13) (st' := [.int 61, .int x2]) dX12_sign_11 rfl ?_
    refine ex_icmp (pc' := 20) dX12_sign_13 (by decide) (fun c => ?_) (fun c => ?_)
    · have h := h.1 c
      refine ex_step (pc' := 21) dX12_sign_20 rfl ?_
      refine ex_step (pc' := 23) (st' := [.int 40, .int x2]) dX12_sign_21 rfl ?_
      refine ex_icmp (pc' := 31) dX12_sign_23 (by decide) (fun c => ?_) (fun c => ?_)
      · have h := h.1 c
        refine ex_step (pc' := 32) dX12_sign_31 rfl ?_
        refine ex_step (pc' := 34) (st' := [.int 41, .int x2]) dX12_sign_32 rfl ?_
        refine ex_icmp (pc' := 42) dX12_sign_34 (by decide) (fun c => ?_) (fun c => ?_)
        · have h := h.1 c
          refine ex_step (pc' := 43) (st' := [.int 3]) dX12_sign_42 rfl ?_
          refine ex_step (pc' := 45) (ls' := [some (.ref 420), some (.int x1), some (.int x2), some (.int x3), some (.int 3)]) dX12_sign_43 rfl ?_
          refine ex_step (pc' := 46) dX12_sign_45 rfl ?_
          refine ex_step (pc' := 48) (st' := [.int 43, .int x2]) dX12_sign_46 rfl ?_
          refine ex_icmp (pc' := 55) dX12_sign_48 (by decide) (fun c => ?_) (fun c => ?_)
          · have h := h.1 c
            exact ex_less (ls' := [some (.ref 420), some (.int x1), some (.int x2), none, some (.int 3)]) ⟨rfl, ⟨rfl, ⟨rfl, ⟨rfl, trivial⟩⟩⟩⟩ h
          · have h := h.2 (Classical.not_not.mp c)
            refine ex_step (pc' := 53) (st' := [.int 8]) dX12_sign_51 rfl ?_
            refine ex_step (pc' := 55) (ls' := [some (.ref 420), some (.int x1), some (.int x2), some (.int x3), some (.int 8)]) dX12_sign_53 rfl ?_
            exact ex_less (ls' := [some (.ref 420), some (.int x1), some (.int x2), none, some (.int 8)]) ⟨rfl, ⟨rfl, ⟨rfl, ⟨rfl, trivial⟩⟩⟩⟩ h
        · have h := h.2 (Classical.not_not.mp c)
          refine ex_step (pc' := 39) (st' := [.int 7]) dX12_sign_37 rfl ?_
          refine ex_step (pc' := 43) dX12_sign_39 rfl ?_
          refine ex_step (pc' := 45) (ls' := [some (.ref 420), some (.int x1), some (.int x2), some (.int x3), some (.int 7)]) dX12_sign_43 rfl ?_
          refine ex_step (pc' := 46) dX12_sign_45 rfl ?_
          refine ex_step (pc' := 48) (st' := [.int 43, .int x2]) dX12_sign_46 rfl ?_
          refine ex_icmp (pc' := 55) dX12_sign_48 (by decide) (fun c => ?_) (fun c => ?_)
          · have h := h.1 c
            exact ex_less (ls' := [some (.ref 420), some (.int x1), some (.int x2), none, some (.int 7)]) ⟨rfl, ⟨rfl, ⟨rfl, ⟨rfl, trivial⟩⟩⟩⟩ h
          · have h := h.2 (Classical.not_not.mp c)
            refine ex_step (pc' := 53) (st' := [.int 8]) dX12_sign_51 rfl ?_
            refine ex_step (pc' := 55) (ls' := [some (.ref 420), some (.int x1), some (.int x2), some (.int x3), some (.int 8)]) dX12_sign_53 rfl ?_
            exact ex_less (ls' := [some (.ref 420), some (.int x1), some (.int x2), none, some (.int 8)]) ⟨rfl, ⟨rfl, ⟨rfl, ⟨rfl, trivial⟩⟩⟩⟩ h
      · have h := h.2 (Classical.not_not.mp c)
        refine ex_step (pc' := 28) (st' := [.int 6]) dX12_sign_26 rfl ?_
        refine ex_step (pc' := 43) dX12_sign_28 rfl ?_
        refine ex_step (pc' := 45) (ls' := [some (.ref 420), some (.int x1), some (.int x2), some (.int x3), some (.int 6)]) dX12_sign_43 rfl ?_
        refine ex_step (pc' := 46) dX12_sign_45 rfl ?_
        refine ex_step (pc' := 48) (st' := [.int 43, .int x2]) dX12_sign_46 rfl ?_
        refine ex_icmp (pc' := 55) dX12_sign_48 (by decide) (fun c => ?_) (fun c => ?_)
        · have h := h.1 c
          exact ex_less (ls' := [some (.ref 420), some (.int x1), some (.int x2), none, some (.int 6)]) ⟨rfl, ⟨rfl, ⟨rfl, ⟨rfl, trivial⟩⟩⟩⟩ h
        · have h := h.2 (Classical.not_not.mp c)
          refine ex_step (pc' := 53) (st' := [.int 8]) dX12_sign_51 rfl ?_
          refine ex_step (pc' := 55) (ls' := [some (.ref 420), some (.int x1), some (.int x2), some (.int x3), some (.int 8)]) dX12_sign_53 rfl ?_
          exact ex_less (ls' := [some (.ref 420), some (.int x1), some (.int x2), none, some (.int 8)]) ⟨rfl, ⟨rfl, ⟨rfl, ⟨rfl, trivial⟩⟩⟩⟩ h
    · have h := h.2 (Classical.not_not.mp c)
      refine ex_step (pc' := 17) (st' := [.int 5]) dX12_sign_16 rfl ?_
      refine ex_step (pc' := 43) dX12_sign_17 rfl ?_
      refine ex_step (pc' := 45) (ls' := [some (.ref 420), some (.int x1), some (.int x2), some (.int x3), some (.int 5)]) dX12_sign_43 rfl ?_
      refine ex_step (pc' := 46) dX12_sign_45 rfl ?_
      refine ex_step (pc' := 48) (st' := [.int 43, .int x2]) dX12_sign_46 rfl ?_
      refine ex_icmp (pc' := 55) dX12_sign_48 (by decide) (fun c => ?_) (fun c => ?_)
      · have h := h.1 c
        exact ex_less (ls' := [some (.ref 420), some (.int x1), some (.int x2), none, some (.int 5)]) ⟨rfl, ⟨rfl, ⟨rfl, ⟨rfl, trivial⟩⟩⟩⟩ h
      · have h := h.2 (Classical.not_not.mp c)
        refine ex_step (pc' := 53) (st' := [.int 8]) dX12_sign_51 rfl ?_
        refine ex_step (pc' := 55) (ls' := [some (.ref 420), some (.int x1), some (.int x2), some (.int x3), some (.int 8)]) dX12_sign_53 rfl ?_
        exact ex_less (ls' := [some (.ref 420), some (.int x1), some (.int x2), none, some (.int 8)]) ⟨rfl, ⟨rfl, ⟨rfl, ⟨rfl, trivial⟩⟩⟩⟩ h
  · have h := h.2 (Classical.not_not.mp c)
    refine ex_step (pc' := 7) (st' := [.int 4]) dX12_sign_6 rfl ?_
    refine ex_step (pc' := 43) dX12_sign_7 rfl ?_
    refine ex_step (pc' := 45) (ls' := [some (.ref 420), some (.int x1), some (.int x2), some (.int x3), some (.int 4)]) dX12_sign_43 rfl ?_
    refine ex_step (pc' := 46) dX12_sign_45 rfl ?_
    refine ex_step (pc' := 48) (st' := [.int 43, .int x2]) dX12_sign_46 rfl ?_
    refine ex_icmp (pc' := 55) dX12_sign_48 (by decide) (fun c => ?_) (fun c => ?_)
    · have h := h.1 c
      exact ex_less (ls' := [some (.ref 420), some (.int x1), some (.int x2), none, some (.int 4)]) ⟨rfl, ⟨rfl, ⟨rfl, ⟨rfl, trivial⟩⟩⟩⟩ h
    · have h := h.2 (Classical.not_not.mp c)
      refine ex_step (pc' := 53) (st' := [.int 8]) dX12_sign_51 rfl ?_
      refine ex_step (pc' := 55) (ls' := [some (.ref 420), some (.int x1), some (.int x2), some (.int x3), some (.int 8)]) dX12_sign_53 rfl ?_
      exact ex_less (ls' := [some (.ref 420), some (.int x1), some (.int x2), none, some (.int 8)]) ⟨rfl, ⟨rfl, ⟨rfl, ⟨rfl, trivial⟩⟩⟩⟩ h
set_option maxHeartbeats 4000000 in
theorem BX12_sign_55 {d : Nat} {Z : zZ} {I : zI} {J : zJ} {o : zO} {t u : Nat} (x1 : Int32) (x2 : Int32) (x4 : Int32) (hL : zLY Z t u)  (h : ((¬ x2 = 45 → zE (d + 1) kX12_sign 65 [some (.ref 420), some (.int x1), some (.int x2), none, some (.int x4)] [] Z I J o) ∧ (x2 = 45 → zE (d + 1) kX12_sign 65 [some (.ref 420), some (.int x1), some (.int x2), none, some (.int 9)] [] Z I J o))) : zE (d + 1) kX12_sign 55 [some (.ref 420), some (.int x1), some (.int x2), none, some (.int x4)] [] Z I J o := by
  refine ex_step (pc' := 56) dX12_sign_55 rfl ?_
  refine ex_step (pc' := 58) (st' := [.int 45, .int x2]) dX12_sign_56 rfl ?_
  refine ex_icmp (pc' := 65) dX12_sign_58 (by decide) (fun c => ?_) (fun c => ?_)
  · have h := h.1 c
    exact h
  · have h := h.2 (Classical.not_not.mp c)
    refine ex_step (pc' := 63) (st' := [.int 9]) dX12_sign_61 rfl ?_
    refine ex_step (pc' := 65) (ls' := [some (.ref 420), some (.int x1), some (.int x2), none, some (.int 9)]) dX12_sign_63 rfl ?_
    exact h
set_option maxHeartbeats 4000000 in
theorem BX12_sign_65 {d : Nat} {Z : zZ} {I : zI} {J : zJ} {o : zO} {t u : Nat} (x1 : Int32) (x2 : Int32) (x4 : Int32) (hL : zLY Z t u)  (h : ((¬ x2 = 42 → zE (d + 1) kX12_sign 75 [some (.ref 420), some (.int x1), some (.int x2), none, some (.int x4)] [] Z I J o) ∧ (x2 = 42 → zE (d + 1) kX12_sign 75 [some (.ref 420), some (.int x1), some (.int x2), none, some (.int 10)] [] Z I J o))) : zE (d + 1) kX12_sign 65 [some (.ref 420), some (.int x1), some (.int x2), none, some (.int x4)] [] Z I J o := by
  refine ex_step (pc' := 66) dX12_sign_65 rfl ?_
  refine ex_step (pc' := 68) (st' := [.int 42, .int x2]) dX12_sign_66 rfl ?_
  refine ex_icmp (pc' := 75) dX12_sign_68 (by decide) (fun c => ?_) (fun c => ?_)
  · have h := h.1 c
    exact h
  · have h := h.2 (Classical.not_not.mp c)
    refine ex_step (pc' := 73) (st' := [.int 10]) dX12_sign_71 rfl ?_
    refine ex_step (pc' := 75) (ls' := [some (.ref 420), some (.int x1), some (.int x2), none, some (.int 10)]) dX12_sign_73 rfl ?_
    exact h
set_option maxHeartbeats 4000000 in
theorem BX12_sign_75 {d : Nat} {Z : zZ} {I : zI} {J : zJ} {o : zO} {t u : Nat} (x1 : Int32) (x2 : Int32) (x4 : Int32) (hL : zLY Z t u)  (h : ((¬ x2 = 47 → zE (d + 1) kX12_sign 85 [some (.ref 420), some (.int x1), some (.int x2), none, some (.int x4)] [] Z I J o) ∧ (x2 = 47 → zE (d + 1) kX12_sign 85 [some (.ref 420), some (.int x1), some (.int x2), none, some (.int 15)] [] Z I J o))) : zE (d + 1) kX12_sign 75 [some (.ref 420), some (.int x1), some (.int x2), none, some (.int x4)] [] Z I J o := by
  refine ex_step (pc' := 76) dX12_sign_75 rfl ?_
  refine ex_step (pc' := 78) (st' := [.int 47, .int x2]) dX12_sign_76 rfl ?_
  refine ex_icmp (pc' := 85) dX12_sign_78 (by decide) (fun c => ?_) (fun c => ?_)
  · have h := h.1 c
    exact h
  · have h := h.2 (Classical.not_not.mp c)
    refine ex_step (pc' := 83) (st' := [.int 15]) dX12_sign_81 rfl ?_
    refine ex_step (pc' := 85) (ls' := [some (.ref 420), some (.int x1), some (.int x2), none, some (.int 15)]) dX12_sign_83 rfl ?_
    exact h
set_option maxHeartbeats 4000000 in
theorem BX12_sign_85 {d : Nat} {Z : zZ} {I : zI} {J : zJ} {o : zO} {t u : Nat} (x1 : Int32) (x2 : Int32) (x4 : Int32) (hL : zLY Z t u)  (h : ((¬ x2 = 60 → zE (d + 1) kX12_sign 95 [some (.ref 420), some (.int x1), none, none, some (.int x4)] [] Z I J o) ∧ (x2 = 60 → zE (d + 1) kX12_sign 95 [some (.ref 420), some (.int x1), none, none, some (.int 13)] [] Z I J o))) : zE (d + 1) kX12_sign 85 [some (.ref 420), some (.int x1), some (.int x2), none, some (.int x4)] [] Z I J o := by
  refine ex_step (pc' := 86) dX12_sign_85 rfl ?_
  refine ex_step (pc' := 88) (st' := [.int 60, .int x2]) dX12_sign_86 rfl ?_
  refine ex_icmp (pc' := 95) dX12_sign_88 (by decide) (fun c => ?_) (fun c => ?_)
  · have h := h.1 c
    exact ex_less (ls' := [some (.ref 420), some (.int x1), none, none, some (.int x4)]) ⟨rfl, ⟨rfl, ⟨rfl, trivial⟩⟩⟩ h
  · have h := h.2 (Classical.not_not.mp c)
    refine ex_step (pc' := 93) (st' := [.int 13]) dX12_sign_91 rfl ?_
    refine ex_step (pc' := 95) (ls' := [some (.ref 420), some (.int x1), some (.int x2), none, some (.int 13)]) dX12_sign_93 rfl ?_
    exact ex_less (ls' := [some (.ref 420), some (.int x1), none, none, some (.int 13)]) ⟨rfl, ⟨rfl, ⟨rfl, trivial⟩⟩⟩ h
set_option maxHeartbeats 4000000 in
theorem BX12_sign_95 {d : Nat} {Z : zZ} {I : zI} {J : zJ} {o : zO} {t u : Nat} (x1 : Int32) (x4 : Int32) (hL : zLY Z t u)  (h : (∃ (I1 : zI) (J2 : zJ), zE d kX12_token 0 [some (.ref 420), some (.int x4), some (.int x1), some (.int 0), some (.long 0), none] [] Z I J (none, Z, I1, J2) ∧ o = (some (.int 1), Z, I1, J2))) : zE (d + 1) kX12_sign 95 [some (.ref 420), some (.int x1), none, none, some (.int x4)] [] Z I J o := by
  refine ex_step (pc' := 96) dX12_sign_95 rfl ?_
  refine ex_step (pc' := 98) dX12_sign_96 rfl ?_
  refine ex_step (pc' := 99) dX12_sign_98 rfl ?_
  refine ex_step (pc' := 100) (st' := [.int 0, .int x1, .int x4, .ref 420]) dX12_sign_99 rfl ?_
  refine ex_step (pc' := 101) (st' := [.long 0, .int 0, .int x1, .int x4, .ref 420]) dX12_sign_100 rfl ?_
  obtain ⟨I1, J2, hc, h⟩ := h
  refine ex_callV (as := [.int x4, .int x1, .int 0, .long 0]) (st := []) (ci := 12) dX12_sign_101 zmX12_token zl_RX12_213 ziX12_token zvX12_token (by decide) (ly_a420 hL) rfl (Nat.le_of_ble_eq_true rfl) (Nat.le_of_ble_eq_true rfl) hc ?_
  refine ex_step (pc' := 105) (st' := [.int 1]) dX12_sign_104 rfl ?_
  rw [h]; exact ex_ret (v := some (.int 1)) ⟨dX12_sign_105, _, rfl, rfl⟩
set_option maxHeartbeats 4000000 in
theorem BX12_is_0 {d : Nat} {Z : zZ} {I : zI} {J : zJ} {o : zO} {t u : Nat} (x1 : Int32) (hL : zLY Z t u)  (h : ((¬ (I 420 13) = 0 → o = (some (.int 0), Z, I, J)) ∧ ((I 420 13) = 0 → (vp_in (I 420 11) 403 ∧ ((¬ (I 423 (I 420 11).toNatClampNeg) = x1 → o = (some (.int 0), Z, I, J)) ∧ ((I 423 (I 420 11).toNatClampNeg) = x1 → o = (some (.int 1), Z, I, J))))))) : zE d kX12_is 0 [some (.ref 420), some (.int x1)] [] Z I J o := by
  refine ex_step (pc' := 1) dX12_is_0 rfl ?_
  refine ex_geti dX12_is_1 wf_RX12_228 (ly_a420 hL) rfl ?_
  refine ex_if (pc' := 24) dX12_is_4 (by decide) (fun c => ?_) (fun c => ?_)
  · have h := h.1 c
    refine ex_step (pc' := 25) (st' := [.int 0]) dX12_is_24 rfl ?_
    rw [h]; exact ex_ret (v := some (.int 0)) ⟨dX12_is_25, _, rfl, rfl⟩
  · have h := h.2 (Classical.not_not.mp c)
    refine ex_step (pc' := 8) dX12_is_7 rfl ?_
    refine ex_getr dX12_is_8 wf_RX12_20 (ly_a420 hL) rfl (ly_r420_5 hL) ?_
    refine ex_step (pc' := 12) dX12_is_11 rfl ?_
    refine ex_geti dX12_is_12 wf_RX12_231 (ly_a420 hL) rfl ?_
    obtain ⟨hv, h⟩ := h
    refine ex_iald dX12_is_15 (Or.inl (ly_a423 hL)) hv ?_
    refine ex_step (pc' := 17) dX12_is_16 rfl ?_
    refine ex_icmp (pc' := 24) dX12_is_17 (by decide) (fun c => ?_) (fun c => ?_)
    · have h := h.1 c
      refine ex_step (pc' := 25) (st' := [.int 0]) dX12_is_24 rfl ?_
      rw [h]; exact ex_ret (v := some (.int 0)) ⟨dX12_is_25, _, rfl, rfl⟩
    · have h := h.2 (Classical.not_not.mp c)
      refine ex_step (pc' := 21) (st' := [.int 1]) dX12_is_20 rfl ?_
      refine ex_step (pc' := 25) dX12_is_21 rfl ?_
      rw [h]; exact ex_ret (v := some (.int 1)) ⟨dX12_is_25, _, rfl, rfl⟩
set_option maxHeartbeats 4000000 in
theorem BX12_fail_0 {d : Nat} {Z : zZ} {I : zI} {J : zJ} {o : zO} {t u : Nat} (x1 : Int32) (hL : zLY Z t u)  (h : (((I 420 13) ≤ 0 → (∀ I1 : zI, I1 = zu I 420 13 x1 → (vp_in (I1 420 11) 403 ∧ (∀ I2 : zI, I2 = zu I1 420 14 (I1 424 (I1 420 11).toNatClampNeg) → o = (none, Z, I2, J))))) ∧ (¬ (I 420 13) ≤ 0 → o = (none, Z, I, J)))) : zE d kX12_fail 0 [some (.ref 420), some (.int x1)] [] Z I J o := by
  refine ex_step (pc' := 1) dX12_fail_0 rfl ?_
  refine ex_geti dX12_fail_1 wf_RX12_228 (ly_a420 hL) rfl ?_
  refine ex_if (pc' := 8) dX12_fail_4 (by decide) (fun c => ?_) (fun c => ?_)
  · have h := h.1 c
    refine ex_step (pc' := 9) dX12_fail_8 rfl ?_
    refine ex_step (pc' := 10) dX12_fail_9 rfl ?_
    refine ex_putiN dX12_fail_10 (wp_RX12_228 _) (ly_a420 hL) rfl ⟨rfl, rfl⟩ (fun I1 eI1 => ?_)
    have h := h I1 eI1
    refine ex_step (pc' := 14) dX12_fail_13 rfl ?_
    refine ex_step (pc' := 15) dX12_fail_14 rfl ?_
    refine ex_getr dX12_fail_15 wf_RX12_24 (ly_a420 hL) rfl (ly_r420_6 hL) ?_
    refine ex_step (pc' := 19) dX12_fail_18 rfl ?_
    refine ex_geti dX12_fail_19 wf_RX12_231 (ly_a420 hL) rfl ?_
    obtain ⟨hv, h⟩ := h
    refine ex_iald dX12_fail_22 (Or.inl (ly_a424 hL)) hv ?_
    refine ex_putiN dX12_fail_23 (wp_RX12_234 _) (ly_a420 hL) rfl ⟨rfl, rfl⟩ (fun I2 eI2 => ?_)
    have h := h I2 eI2
    rw [h]; exact ex_ret (v := none) ⟨dX12_fail_26, rfl⟩
  · have h := h.2 c
    rw [h]; exact ex_ret (v := none) ⟨dX12_fail_7, rfl⟩
set_option maxHeartbeats 4000000 in
theorem BX12_wrong_0 {d : Nat} {Z : zZ} {I : zI} {J : zJ} {o : zO} {t u : Nat} (x1 : Int32) (x2 : Int32) (hL : zLY Z t u)  (h : (vp_in x2 403 ∧ ((0 < (I 420 13) → o = (none, Z, I, J)) ∧ (¬ 0 < (I 420 13) → (((I 420 15) = 0 → (∀ I1 : zI, I1 = zu I 420 15 x1 → (∀ I2 : zI, I2 = zu I1 420 16 (I 424 x2.toNatClampNeg) → o = (none, Z, I2, J)))) ∧ (¬ (I 420 15) = 0 → (((I 420 16) < (I 424 x2.toNatClampNeg) → o = (none, Z, I, J)) ∧ (¬ (I 420 16) < (I 424 x2.toNatClampNeg) → ((¬ (I 424 x2.toNatClampNeg) = (I 420 16) → (∀ I3 : zI, I3 = zu I 420 15 x1 → (∀ I4 : zI, I4 = zu I3 420 16 (I 424 x2.toNatClampNeg) → o = (none, Z, I4, J)))) ∧ ((I 424 x2.toNatClampNeg) = (I 420 16) → ((x1 < (I 420 15) → (∀ I5 : zI, I5 = zu I 420 15 x1 → (∀ I6 : zI, I6 = zu I5 420 16 (I 424 x2.toNatClampNeg) → o = (none, Z, I6, J)))) ∧ (¬ x1 < (I 420 15) → o = (none, Z, I, J))))))))))))) : zE d kX12_wrong 0 [some (.ref 420), some (.int x1), some (.int x2), none] [] Z I J o := by
  refine ex_step (pc' := 1) dX12_wrong_0 rfl ?_
  refine ex_getr dX12_wrong_1 wf_RX12_24 (ly_a420 hL) rfl (ly_r420_6 hL) ?_
  refine ex_step (pc' := 5) dX12_wrong_4 rfl ?_
  obtain ⟨hv, h⟩ := h
  refine ex_iald dX12_wrong_5 (Or.inl (ly_a424 hL)) hv ?_
  refine ex_step (pc' := 7) (ls' := [some (.ref 420), some (.int x1), some (.int x2), some (.int (I 424 x2.toNatClampNeg))]) dX12_wrong_6 rfl ?_
  refine ex_step (pc' := 8) dX12_wrong_7 rfl ?_
  refine ex_geti dX12_wrong_8 wf_RX12_228 (ly_a420 hL) rfl ?_
  refine ex_if (pc' := 45) dX12_wrong_11 (by decide) (fun c => ?_) (fun c => ?_)
  · have h := h.1 c
    rw [h]; exact ex_ret (v := none) ⟨dX12_wrong_45, rfl⟩
  · have h := h.2 c
    refine ex_step (pc' := 15) dX12_wrong_14 rfl ?_
    refine ex_geti dX12_wrong_15 wf_RX12_237 (ly_a420 hL) rfl ?_
    refine ex_if (pc' := 46) dX12_wrong_18 (by decide) (fun c => ?_) (fun c => ?_)
    · have h := h.1 c
      refine ex_step (pc' := 47) dX12_wrong_46 rfl ?_
      refine ex_step (pc' := 48) dX12_wrong_47 rfl ?_
      refine ex_putiN dX12_wrong_48 (wp_RX12_237 _) (ly_a420 hL) rfl ⟨rfl, rfl⟩ (fun I1 eI1 => ?_)
      have h := h I1 eI1
      refine ex_step (pc' := 52) dX12_wrong_51 rfl ?_
      refine ex_step (pc' := 53) dX12_wrong_52 rfl ?_
      refine ex_putiN dX12_wrong_53 (wp_RX12_240 _) (ly_a420 hL) rfl ⟨rfl, rfl⟩ (fun I2 eI2 => ?_)
      have h := h I2 eI2
      rw [h]; exact ex_ret (v := none) ⟨dX12_wrong_56, rfl⟩
    · have h := h.2 c
      refine ex_step (pc' := 22) dX12_wrong_21 rfl ?_
      refine ex_step (pc' := 23) dX12_wrong_22 rfl ?_
      refine ex_geti dX12_wrong_23 wf_RX12_240 (ly_a420 hL) rfl ?_
      refine ex_icmp (pc' := 45) dX12_wrong_26 (by decide) (fun c => ?_) (fun c => ?_)
      · have h := h.1 c
        rw [h]; exact ex_ret (v := none) ⟨dX12_wrong_45, rfl⟩
      · have h := h.2 c
        refine ex_step (pc' := 30) dX12_wrong_29 rfl ?_
        refine ex_step (pc' := 31) dX12_wrong_30 rfl ?_
        refine ex_geti dX12_wrong_31 wf_RX12_240 (ly_a420 hL) rfl ?_
        refine ex_icmp (pc' := 46) dX12_wrong_34 (by decide) (fun c => ?_) (fun c => ?_)
        · have h := h.1 c
          refine ex_step (pc' := 47) dX12_wrong_46 rfl ?_
          refine ex_step (pc' := 48) dX12_wrong_47 rfl ?_
          refine ex_putiN dX12_wrong_48 (wp_RX12_237 _) (ly_a420 hL) rfl ⟨rfl, rfl⟩ (fun I3 eI3 => ?_)
          have h := h I3 eI3
          refine ex_step (pc' := 52) dX12_wrong_51 rfl ?_
          refine ex_step (pc' := 53) dX12_wrong_52 rfl ?_
          refine ex_putiN dX12_wrong_53 (wp_RX12_240 _) (ly_a420 hL) rfl ⟨rfl, rfl⟩ (fun I4 eI4 => ?_)
          have h := h I4 eI4
          rw [h]; exact ex_ret (v := none) ⟨dX12_wrong_56, rfl⟩
        · have h := h.2 (Classical.not_not.mp c)
          refine ex_step (pc' := 38) dX12_wrong_37 rfl ?_
          refine ex_step (pc' := 39) dX12_wrong_38 rfl ?_
          refine ex_geti dX12_wrong_39 wf_RX12_237 (ly_a420 hL) rfl ?_
          refine ex_icmp (pc' := 46) dX12_wrong_42 (by decide) (fun c => ?_) (fun c => ?_)
          · have h := h.1 c
            refine ex_step (pc' := 47) dX12_wrong_46 rfl ?_
            refine ex_step (pc' := 48) dX12_wrong_47 rfl ?_
            refine ex_putiN dX12_wrong_48 (wp_RX12_237 _) (ly_a420 hL) rfl ⟨rfl, rfl⟩ (fun I5 eI5 => ?_)
            have h := h I5 eI5
            refine ex_step (pc' := 52) dX12_wrong_51 rfl ?_
            refine ex_step (pc' := 53) dX12_wrong_52 rfl ?_
            refine ex_putiN dX12_wrong_53 (wp_RX12_240 _) (ly_a420 hL) rfl ⟨rfl, rfl⟩ (fun I6 eI6 => ?_)
            have h := h I6 eI6
            rw [h]; exact ex_ret (v := none) ⟨dX12_wrong_56, rfl⟩
          · have h := h.2 c
            rw [h]; exact ex_ret (v := none) ⟨dX12_wrong_45, rfl⟩
set_option maxHeartbeats 4000000 in
theorem BX12_goesOn_0 {d : Nat} {Z : zZ} {I : zI} {J : zJ} {o : zO} {t u : Nat}  (hL : zLY Z t u)  (h : ((¬ (I 420 11) = 400 → (∀ I1 : zI, I1 = zu I 420 11 ((I 420 11) + 1) → o = (none, Z, I1, J))) ∧ ((I 420 11) = 400 → (∃ (I2 : zI), zE d kX12_fail 0 [some (.ref 420), some (.int 2)] [] Z I J (none, Z, I2, J) ∧ o = (none, Z, I2, J))))) : zE (d + 1) kX12_goesOn 0 [some (.ref 420)] [] Z I J o := by
  refine ex_step (pc' := 1) dX12_goesOn_0 rfl ?_
  refine ex_geti dX12_goesOn_1 wf_RX12_231 (ly_a420 hL) rfl ?_
  refine ex_step (pc' := 7) (st' := [.int 400, .int (I 420 11)]) dX12_goesOn_4 rfl ?_
  refine ex_icmp (pc' := 18) dX12_goesOn_7 (by decide) (fun c => ?_) (fun c => ?_)
  · have h := h.1 c
    refine ex_step (pc' := 19) dX12_goesOn_18 rfl ?_
    refine ex_step (pc' := 20) dX12_goesOn_19 rfl ?_
    refine ex_geti dX12_goesOn_20 wf_RX12_231 (ly_a420 hL) rfl ?_
    refine ex_step (pc' := 24) (st' := [.int 1, .int (I 420 11), .ref 420]) dX12_goesOn_23 rfl ?_
    refine ex_step (pc' := 25) dX12_goesOn_24 rfl ?_
    refine ex_putiN dX12_goesOn_25 (wp_RX12_231 _) (ly_a420 hL) rfl ⟨rfl, rfl⟩ (fun I1 eI1 => ?_)
    have h := h I1 eI1
    rw [h]; exact ex_ret (v := none) ⟨dX12_goesOn_28, rfl⟩
  · have h := h.2 (Classical.not_not.mp c)
    refine ex_step (pc' := 11) dX12_goesOn_10 rfl ?_
    refine ex_step (pc' := 12) (st' := [.int 2, .ref 420]) dX12_goesOn_11 rfl ?_
    obtain ⟨I2, hc, h⟩ := h
    refine ex_callV (as := [.int 2]) (st := []) (ci := 12) dX12_goesOn_12 zmX12_fail zl_RX12_243 ziX12_fail zvX12_fail (by decide) (ly_a420 hL) rfl (Nat.le_of_ble_eq_true rfl) (Nat.le_of_ble_eq_true rfl) hc ?_
    refine ex_step (pc' := 28) dX12_goesOn_15 rfl ?_
    rw [h]; exact ex_ret (v := none) ⟨dX12_goesOn_28, rfl⟩
set_option maxHeartbeats 4000000 in
theorem BX12_must_0 {d : Nat} {Z : zZ} {I : zI} {J : zJ} {o : zO} {t u : Nat} (x1 : Int32) (hL : zLY Z t u)  (h : (∃ (v1 : Int32), zE (d + 1) kX12_is 0 [some (.ref 420), some (.int x1)] [] Z I J (some (.int v1), Z, I, J) ∧ ((v1 = 0 → (∃ (I2 : zI), zE (d + 1) kX12_fail 0 [some (.ref 420), some (.int 1)] [] Z I J (none, Z, I2, J) ∧ o = (none, Z, I2, J))) ∧ (¬ v1 = 0 → (∃ (I3 : zI), zE (d + 1) kX12_goesOn 0 [some (.ref 420)] [] Z I J (none, Z, I3, J) ∧ o = (none, Z, I3, J)))))) : zE (d + 2) kX12_must 0 [some (.ref 420), some (.int x1)] [] Z I J o := by
  refine ex_step (pc' := 1) dX12_must_0 rfl ?_
  refine ex_step (pc' := 2) dX12_must_1 rfl ?_
  obtain ⟨v1, hc, h⟩ := h
  refine ex_callV (as := [.int x1]) (st := []) (ci := 12) dX12_must_2 zmX12_is zl_RX12_246 ziX12_is zvX12_is (by decide) (ly_a420 hL) rfl (Nat.le_of_ble_eq_true rfl) (Nat.le_of_ble_eq_true rfl) hc ?_
  refine ex_if (pc' := 15) dX12_must_5 (by decide) (fun c => ?_) (fun c => ?_)
  · have h := h.1 c
    refine ex_step (pc' := 16) dX12_must_15 rfl ?_
    refine ex_step (pc' := 17) (st' := [.int 1, .ref 420]) dX12_must_16 rfl ?_
    obtain ⟨I2, hc, h⟩ := h
    refine ex_callV (as := [.int 1]) (st := []) (ci := 12) dX12_must_17 zmX12_fail zl_RX12_243 ziX12_fail zvX12_fail (by decide) (ly_a420 hL) rfl (Nat.le_of_ble_eq_true rfl) (Nat.le_of_ble_eq_true rfl) hc ?_
    rw [h]; exact ex_ret (v := none) ⟨dX12_must_20, rfl⟩
  · have h := h.2 c
    refine ex_step (pc' := 9) dX12_must_8 rfl ?_
    obtain ⟨I3, hc, h⟩ := h
    refine ex_callV (as := []) (st := []) (ci := 12) dX12_must_9 zmX12_goesOn zl_RX12_249 ziX12_goesOn zvX12_goesOn (by decide) (ly_a420 hL) rfl (Nat.le_of_ble_eq_true rfl) (Nat.le_of_ble_eq_true rfl) hc ?_
    refine ex_step (pc' := 20) dX12_must_12 rfl ?_
    rw [h]; exact ex_ret (v := none) ⟨dX12_must_20, rfl⟩
set_option maxHeartbeats 4000000 in
theorem BX12_plain0_0 {d : Nat} {Z : zZ} {I : zI} {J : zJ} {o : zO} {t u : Nat} (x1 : Int32) (hL : zLY Z t u)  (h : (vp_in x1 2 ∧ (∀ I1 : zI, I1 = zu I 429 x1.toNatClampNeg 6 → (vp_in x1 2 ∧ (∀ I2 : zI, I2 = zu I1 430 x1.toNatClampNeg 6 → (vp_in x1 2 ∧ (∀ I3 : zI, I3 = zu I2 431 x1.toNatClampNeg 0 → (vp_in x1 2 ∧ (∀ I4 : zI, I4 = zu I3 438 x1.toNatClampNeg 0 → (vp_in x1 2 ∧ (∀ I5 : zI, I5 = zu I4 441 x1.toNatClampNeg 0 → zE d kX12_plain0 39 [some (.ref 420), some (.int x1), some (.int 0)] [] Z I5 J o))))))))))) : zE d kX12_plain0 0 [some (.ref 420), some (.int x1), none] [] Z I J o := by
  refine ex_step (pc' := 1) dX12_plain0_0 rfl ?_
  refine ex_getr dX12_plain0_1 wf_RX12_43 (ly_a420 hL) rfl (ly_r420_22 hL) ?_
  refine ex_step (pc' := 5) dX12_plain0_4 rfl ?_
  refine ex_step (pc' := 7) (st' := [.int 6, .int x1, .ref 429]) dX12_plain0_5 rfl ?_
  obtain ⟨hv, h⟩ := h
  refine ex_iastN dX12_plain0_7 (ly_a429 hL) hv (fun I1 eI1 => ?_)
  have h := h I1 eI1
  refine ex_step (pc' := 9) dX12_plain0_8 rfl ?_
  refine ex_getr dX12_plain0_9 wf_RX12_46 (ly_a420 hL) rfl (ly_r420_23 hL) ?_
  refine ex_step (pc' := 13) dX12_plain0_12 rfl ?_
  refine ex_step (pc' := 15) (st' := [.int 6, .int x1, .ref 430]) dX12_plain0_13 rfl ?_
  obtain ⟨hv, h⟩ := h
  refine ex_iastN dX12_plain0_15 (ly_a430 hL) hv (fun I2 eI2 => ?_)
  have h := h I2 eI2
  refine ex_step (pc' := 17) dX12_plain0_16 rfl ?_
  refine ex_getr dX12_plain0_17 wf_RX12_49 (ly_a420 hL) rfl (ly_r420_24 hL) ?_
  refine ex_step (pc' := 21) dX12_plain0_20 rfl ?_
  refine ex_step (pc' := 22) (st' := [.int 0, .int x1, .ref 431]) dX12_plain0_21 rfl ?_
  obtain ⟨hv, h⟩ := h
  refine ex_iastN dX12_plain0_22 (ly_a431 hL) hv (fun I3 eI3 => ?_)
  have h := h I3 eI3
  refine ex_step (pc' := 24) dX12_plain0_23 rfl ?_
  refine ex_getr dX12_plain0_24 wf_RX12_70 (ly_a420 hL) rfl (ly_r420_31 hL) ?_
  refine ex_step (pc' := 28) dX12_plain0_27 rfl ?_
  refine ex_step (pc' := 29) (st' := [.int 0, .int x1, .ref 438]) dX12_plain0_28 rfl ?_
  obtain ⟨hv, h⟩ := h
  refine ex_iastN dX12_plain0_29 (ly_a438 hL) hv (fun I4 eI4 => ?_)
  have h := h I4 eI4
  refine ex_step (pc' := 31) dX12_plain0_30 rfl ?_
  refine ex_getr dX12_plain0_31 wf_RX12_79 (ly_a420 hL) rfl (ly_r420_34 hL) ?_
  refine ex_step (pc' := 35) dX12_plain0_34 rfl ?_
  refine ex_step (pc' := 36) (st' := [.int 0, .int x1, .ref 441]) dX12_plain0_35 rfl ?_
  obtain ⟨hv, h⟩ := h
  refine ex_iastN dX12_plain0_36 (ly_a441 hL) hv (fun I5 eI5 => ?_)
  have h := h I5 eI5
  refine ex_step (pc' := 38) (st' := [.int 0]) dX12_plain0_37 rfl ?_
  refine ex_step (pc' := 39) (ls' := [some (.ref 420), some (.int x1), some (.int 0)]) dX12_plain0_38 rfl ?_
  exact h
set_option maxHeartbeats 4000000 in
theorem BX12_plain0_39 {d : Nat} {Z : zZ} {I : zI} {J : zJ} {o : zO} {t u : Nat} (x1 : Int32) (x2 : Int32) (hL : zLY Z t u)  (h : ((8 ≤ x2 → zE d kX12_plain0 77 [some (.ref 420), some (.int x1), some (.int 0)] [] Z I J o) ∧ (¬ 8 ≤ x2 → (vp_in (((8 : Int32) * x1) + x2) 16 ∧ (∀ I1 : zI, I1 = zu I 445 (((8 : Int32) * x1) + x2).toNatClampNeg 0 → (vp_in (((8 : Int32) * x1) + x2) 16 ∧ (∀ I2 : zI, I2 = zu I1 446 (((8 : Int32) * x1) + x2).toNatClampNeg 0 → zE d kX12_plain0 39 [some (.ref 420), some (.int x1), some (.int (x2 + 1))] [] Z I2 J o))))))) : zE d kX12_plain0 39 [some (.ref 420), some (.int x1), some (.int x2)] [] Z I J o := by
  refine ex_step (pc' := 40) dX12_plain0_39 rfl ?_
  refine ex_step (pc' := 42) (st' := [.int 8, .int x2]) dX12_plain0_40 rfl ?_
  refine ex_icmp (pc' := 75) dX12_plain0_42 (by decide) (fun c => ?_) (fun c => ?_)
  · have h := h.1 c
    refine ex_step (pc' := 76) (st' := [.int 0]) dX12_plain0_75 rfl ?_
    refine ex_step (pc' := 77) (ls' := [some (.ref 420), some (.int x1), some (.int 0)]) dX12_plain0_76 rfl ?_
    exact h
  · have h := h.2 c
    refine ex_step (pc' := 46) dX12_plain0_45 rfl ?_
    refine ex_getr dX12_plain0_46 wf_RX12_91 (ly_a420 hL) rfl (ly_r420_39 hL) ?_
    refine ex_step (pc' := 51) (st' := [.int 8, .ref 445]) dX12_plain0_49 rfl ?_
    refine ex_step (pc' := 52) dX12_plain0_51 rfl ?_
    refine ex_step (pc' := 53) dX12_plain0_52 rfl ?_
    refine ex_step (pc' := 54) dX12_plain0_53 rfl ?_
    refine ex_step (pc' := 55) dX12_plain0_54 rfl ?_
    refine ex_step (pc' := 56) (st' := [.int 0, .int (((8 : Int32) * x1) + x2), .ref 445]) dX12_plain0_55 rfl ?_
    obtain ⟨hv, h⟩ := h
    refine ex_iastN dX12_plain0_56 (ly_a445 hL) hv (fun I1 eI1 => ?_)
    have h := h I1 eI1
    refine ex_step (pc' := 58) dX12_plain0_57 rfl ?_
    refine ex_getr dX12_plain0_58 wf_RX12_94 (ly_a420 hL) rfl (ly_r420_40 hL) ?_
    refine ex_step (pc' := 63) (st' := [.int 8, .ref 446]) dX12_plain0_61 rfl ?_
    refine ex_step (pc' := 64) dX12_plain0_63 rfl ?_
    refine ex_step (pc' := 65) dX12_plain0_64 rfl ?_
    refine ex_step (pc' := 66) dX12_plain0_65 rfl ?_
    refine ex_step (pc' := 67) dX12_plain0_66 rfl ?_
    refine ex_step (pc' := 68) (st' := [.int 0, .int (((8 : Int32) * x1) + x2), .ref 446]) dX12_plain0_67 rfl ?_
    obtain ⟨hv, h⟩ := h
    refine ex_iastN dX12_plain0_68 (ly_a446 hL) hv (fun I2 eI2 => ?_)
    have h := h I2 eI2
    refine ex_step (pc' := 72) (ls' := [some (.ref 420), some (.int x1), some (.int (x2 + 1))]) dX12_plain0_69 rfl ?_
    refine ex_step (pc' := 39) dX12_plain0_72 rfl ?_
    exact h
set_option maxHeartbeats 4000000 in
theorem BX12_plain0_77 {d : Nat} {Z : zZ} {I : zI} {J : zJ} {o : zO} {t u : Nat} (x1 : Int32) (x2 : Int32) (hL : zLY Z t u)  (h : ((7 ≤ x2 → o = (none, Z, I, J)) ∧ (¬ 7 ≤ x2 → (vp_in (((7 : Int32) * x1) + x2) 14 ∧ (∀ I1 : zI, I1 = zu I 434 (((7 : Int32) * x1) + x2).toNatClampNeg 0 → (vp_in (((7 : Int32) * x1) + x2) 14 ∧ (∀ I2 : zI, I2 = zu I1 435 (((7 : Int32) * x1) + x2).toNatClampNeg 0 → zE d kX12_plain0 77 [some (.ref 420), some (.int x1), some (.int (x2 + 1))] [] Z I2 J o))))))) : zE d kX12_plain0 77 [some (.ref 420), some (.int x1), some (.int x2)] [] Z I J o := by
  refine ex_step (pc' := 78) dX12_plain0_77 rfl ?_
  refine ex_step (pc' := 80) (st' := [.int 7, .int x2]) dX12_plain0_78 rfl ?_
  refine ex_icmp (pc' := 113) dX12_plain0_80 (by decide) (fun c => ?_) (fun c => ?_)
  · have h := h.1 c
    rw [h]; exact ex_ret (v := none) ⟨dX12_plain0_113, rfl⟩
  · have h := h.2 c
    refine ex_step (pc' := 84) dX12_plain0_83 rfl ?_
    refine ex_getr dX12_plain0_84 wf_RX12_58 (ly_a420 hL) rfl (ly_r420_27 hL) ?_
    refine ex_step (pc' := 89) (st' := [.int 7, .ref 434]) dX12_plain0_87 rfl ?_
    refine ex_step (pc' := 90) dX12_plain0_89 rfl ?_
    refine ex_step (pc' := 91) dX12_plain0_90 rfl ?_
    refine ex_step (pc' := 92) dX12_plain0_91 rfl ?_
    refine ex_step (pc' := 93) dX12_plain0_92 rfl ?_
    refine ex_step (pc' := 94) (st' := [.int 0, .int (((7 : Int32) * x1) + x2), .ref 434]) dX12_plain0_93 rfl ?_
    obtain ⟨hv, h⟩ := h
    refine ex_iastN dX12_plain0_94 (ly_a434 hL) hv (fun I1 eI1 => ?_)
    have h := h I1 eI1
    refine ex_step (pc' := 96) dX12_plain0_95 rfl ?_
    refine ex_getr dX12_plain0_96 wf_RX12_61 (ly_a420 hL) rfl (ly_r420_28 hL) ?_
    refine ex_step (pc' := 101) (st' := [.int 7, .ref 435]) dX12_plain0_99 rfl ?_
    refine ex_step (pc' := 102) dX12_plain0_101 rfl ?_
    refine ex_step (pc' := 103) dX12_plain0_102 rfl ?_
    refine ex_step (pc' := 104) dX12_plain0_103 rfl ?_
    refine ex_step (pc' := 105) dX12_plain0_104 rfl ?_
    refine ex_step (pc' := 106) (st' := [.int 0, .int (((7 : Int32) * x1) + x2), .ref 435]) dX12_plain0_105 rfl ?_
    obtain ⟨hv, h⟩ := h
    refine ex_iastN dX12_plain0_106 (ly_a435 hL) hv (fun I2 eI2 => ?_)
    have h := h I2 eI2
    refine ex_step (pc' := 110) (ls' := [some (.ref 420), some (.int x1), some (.int (x2 + 1))]) dX12_plain0_107 rfl ?_
    refine ex_step (pc' := 77) dX12_plain0_110 rfl ?_
    exact h
set_option maxHeartbeats 4000000 in
theorem BX12_read_0 {d : Nat} {Z : zZ} {I : zI} {J : zJ} {o : zO} {t u : Nat}  (hL : zLY Z t u)  (h : (∀ I1 : zI, I1 = zu I 420 4 (I 420 2) → zE (d + 7) kX12_read 10 [some (.ref 420), some (.int 0)] [] Z I1 J o)) : zE (d + 7) kX12_read 0 [some (.ref 420), none] [] Z I J o := by
  refine ex_step (pc' := 1) dX12_read_0 rfl ?_
  refine ex_step (pc' := 2) dX12_read_1 rfl ?_
  refine ex_geti dX12_read_2 wf_RX12_191 (ly_a420 hL) rfl ?_
  refine ex_putiN dX12_read_5 (wp_RX12_197 _) (ly_a420 hL) rfl ⟨rfl, rfl⟩ (fun I1 eI1 => ?_)
  have h := h I1 eI1
  refine ex_step (pc' := 9) (st' := [.int 0]) dX12_read_8 rfl ?_
  refine ex_step (pc' := 10) (ls' := [some (.ref 420), some (.int 0)]) dX12_read_9 rfl ?_
  exact h
set_option maxHeartbeats 4000000 in
theorem BX12_read_10 {d : Nat} {Z : zZ} {I : zI} {J : zJ} {o : zO} {t u : Nat} (x1 : Int32) (hL : zLY Z t u)  (h : (((I 420 4) ≤ x1 → (∀ I1 : zI, I1 = zu I 420 2 0 → (∃ (I2 : zI) (J3 : zJ), zE (d + 6) kX12_cut0 0 [some (.ref 420), none, none, none, none, none, none, none] [] Z I1 J (none, Z, I2, J3) ∧ (∀ I4 : zI, I4 = zu I2 420 11 0 → (∀ I5 : zI, I5 = zu I4 420 12 0 → (∀ I6 : zI, I6 = zu I5 420 13 0 → (∀ I7 : zI, I7 = zu I6 420 15 0 → (∀ I8 : zI, I8 = zu I7 420 19 ((1 : Int32) - (I7 420 18)) → (∀ I9 : zI, I9 = zu I8 420 20 0 → (∀ I10 : zI, I10 = zu I9 420 35 0 → (∃ (I11 : zI), zE (d + 6) kX12_plain0 0 [some (.ref 420), some (.int (I10 420 19)), none] [] Z I10 J3 (none, Z, I11, J3) ∧ (∀ I12 : zI, I12 = zu I11 420 41 ((130 : Int32) * (I11 420 19)) → (∀ I13 : zI, I13 = zu I12 420 47 ((420 : Int32) * (I12 420 19)) → zE (d + 7) kX12_read 117 [some (.ref 420), none] [] Z I13 J3 o))))))))))))) ∧ (¬ (I 420 4) ≤ x1 → (vp_in x1 2000 ∧ (vp_in x1 2000 ∧ (∀ I14 : zI, I14 = zu I 422 x1.toNatClampNeg (vp_nar .byte (I 421 x1.toNatClampNeg)) → zE (d + 7) kX12_read 10 [some (.ref 420), some (.int (x1 + 1))] [] Z I14 J o)))))) : zE (d + 7) kX12_read 10 [some (.ref 420), some (.int x1)] [] Z I J o := by
  refine ex_step (pc' := 11) dX12_read_10 rfl ?_
  refine ex_step (pc' := 12) dX12_read_11 rfl ?_
  refine ex_geti dX12_read_12 wf_RX12_197 (ly_a420 hL) rfl ?_
  refine ex_icmp (pc' := 36) dX12_read_15 (by decide) (fun c => ?_) (fun c => ?_)
  · have h := h.1 c
    refine ex_step (pc' := 37) dX12_read_36 rfl ?_
    refine ex_step (pc' := 38) (st' := [.int 0, .ref 420]) dX12_read_37 rfl ?_
    refine ex_putiN dX12_read_38 (wp_RX12_191 _) (ly_a420 hL) rfl ⟨rfl, rfl⟩ (fun I1 eI1 => ?_)
    have h := h I1 eI1
    refine ex_step (pc' := 42) dX12_read_41 rfl ?_
    obtain ⟨I2, J3, hc, h⟩ := h
    refine ex_callV (as := []) (st := []) (ci := 12) dX12_read_42 zmX12_cut0 zl_RX12_252 ziX12_cut0 zvX12_cut0 (by decide) (ly_a420 hL) rfl (Nat.le_of_ble_eq_true rfl) (Nat.le_of_ble_eq_true rfl) hc ?_
    refine ex_step (pc' := 46) dX12_read_45 rfl ?_
    refine ex_step (pc' := 47) (st' := [.int 0, .ref 420]) dX12_read_46 rfl ?_
    refine ex_putiN dX12_read_47 (wp_RX12_231 _) (ly_a420 hL) rfl ⟨rfl, rfl⟩ (fun I4 eI4 => ?_)
    have h := h I4 eI4
    refine ex_step (pc' := 51) dX12_read_50 rfl ?_
    refine ex_step (pc' := 52) (st' := [.int 0, .ref 420]) dX12_read_51 rfl ?_
    refine ex_putiN dX12_read_52 (wp_RX12_255 _) (ly_a420 hL) rfl ⟨rfl, rfl⟩ (fun I5 eI5 => ?_)
    have h := h I5 eI5
    refine ex_step (pc' := 56) dX12_read_55 rfl ?_
    refine ex_step (pc' := 57) (st' := [.int 0, .ref 420]) dX12_read_56 rfl ?_
    refine ex_putiN dX12_read_57 (wp_RX12_228 _) (ly_a420 hL) rfl ⟨rfl, rfl⟩ (fun I6 eI6 => ?_)
    have h := h I6 eI6
    refine ex_step (pc' := 61) dX12_read_60 rfl ?_
    refine ex_step (pc' := 62) (st' := [.int 0, .ref 420]) dX12_read_61 rfl ?_
    refine ex_putiN dX12_read_62 (wp_RX12_237 _) (ly_a420 hL) rfl ⟨rfl, rfl⟩ (fun I7 eI7 => ?_)
    have h := h I7 eI7
    refine ex_step (pc' := 66) dX12_read_65 rfl ?_
    refine ex_step (pc' := 67) (st' := [.int 1, .ref 420]) dX12_read_66 rfl ?_
    refine ex_step (pc' := 68) dX12_read_67 rfl ?_
    refine ex_geti dX12_read_68 wf_RX12_258 (ly_a420 hL) rfl ?_
    refine ex_step (pc' := 72) dX12_read_71 rfl ?_
    refine ex_putiN dX12_read_72 (wp_RX12_261 _) (ly_a420 hL) rfl ⟨rfl, rfl⟩ (fun I8 eI8 => ?_)
    have h := h I8 eI8
    refine ex_step (pc' := 76) dX12_read_75 rfl ?_
    refine ex_step (pc' := 77) (st' := [.int 0, .ref 420]) dX12_read_76 rfl ?_
    refine ex_putiN dX12_read_77 (wp_RX12_264 _) (ly_a420 hL) rfl ⟨rfl, rfl⟩ (fun I9 eI9 => ?_)
    have h := h I9 eI9
    refine ex_step (pc' := 81) dX12_read_80 rfl ?_
    refine ex_step (pc' := 82) (st' := [.int 0, .ref 420]) dX12_read_81 rfl ?_
    refine ex_putiN dX12_read_82 (wp_RX12_267 _) (ly_a420 hL) rfl ⟨rfl, rfl⟩ (fun I10 eI10 => ?_)
    have h := h I10 eI10
    refine ex_step (pc' := 86) dX12_read_85 rfl ?_
    refine ex_step (pc' := 87) dX12_read_86 rfl ?_
    refine ex_geti dX12_read_87 wf_RX12_261 (ly_a420 hL) rfl ?_
    obtain ⟨I11, hc, h⟩ := h
    refine ex_callV (as := [.int (I10 420 19)]) (st := []) (ci := 12) dX12_read_90 zmX12_plain0 zl_RX12_177 ziX12_plain0 zvX12_plain0 (by decide) (ly_a420 hL) rfl (Nat.le_of_ble_eq_true rfl) (Nat.le_of_ble_eq_true rfl) hc ?_
    refine ex_step (pc' := 94) dX12_read_93 rfl ?_
    refine ex_step (pc' := 97) (st' := [.int 130, .ref 420]) dX12_read_94 rfl ?_
    refine ex_step (pc' := 98) dX12_read_97 rfl ?_
    refine ex_geti dX12_read_98 wf_RX12_261 (ly_a420 hL) rfl ?_
    refine ex_step (pc' := 102) dX12_read_101 rfl ?_
    refine ex_putiN dX12_read_102 (wp_RX12_270 _) (ly_a420 hL) rfl ⟨rfl, rfl⟩ (fun I12 eI12 => ?_)
    have h := h I12 eI12
    refine ex_step (pc' := 106) dX12_read_105 rfl ?_
    refine ex_step (pc' := 109) (st' := [.int 420, .ref 420]) dX12_read_106 rfl ?_
    refine ex_step (pc' := 110) dX12_read_109 rfl ?_
    refine ex_geti dX12_read_110 wf_RX12_261 (ly_a420 hL) rfl ?_
    refine ex_step (pc' := 114) dX12_read_113 rfl ?_
    refine ex_putiN dX12_read_114 (wp_RX12_273 _) (ly_a420 hL) rfl ⟨rfl, rfl⟩ (fun I13 eI13 => ?_)
    have h := h I13 eI13
    exact ex_less (ls' := [some (.ref 420), none]) ⟨rfl, trivial⟩ h
  · have h := h.2 c
    refine ex_step (pc' := 19) dX12_read_18 rfl ?_
    refine ex_getr dX12_read_19 wf_RX12_17 (ly_a420 hL) rfl (ly_r420_3 hL) ?_
    refine ex_step (pc' := 23) dX12_read_22 rfl ?_
    refine ex_step (pc' := 24) dX12_read_23 rfl ?_
    refine ex_getr dX12_read_24 wf_RX12_13 (ly_a420 hL) rfl (ly_r420_1 hL) ?_
    refine ex_step (pc' := 28) dX12_read_27 rfl ?_
    obtain ⟨hv, h⟩ := h
    refine ex_bald dX12_read_28 (Or.inl (ly_a421 hL)) hv ?_
    obtain ⟨hv, h⟩ := h
    refine ex_bastN dX12_read_29 (ly_a422 hL) hv (fun I14 eI14 => ?_)
    have h := h I14 eI14
    refine ex_step (pc' := 33) (ls' := [some (.ref 420), some (.int (x1 + 1))]) dX12_read_30 rfl ?_
    refine ex_step (pc' := 10) dX12_read_33 rfl ?_
    exact h
set_option maxHeartbeats 4000000 in
theorem BX12_read_117 {d : Nat} {Z : zZ} {I : zI} {J : zJ} {o : zO} {t u : Nat}  (hL : zLY Z t u)  (h : ((¬ (I 420 13) = 0 → zE (d + 7) kX12_read 139 [some (.ref 420), none] [] Z I J o) ∧ ((I 420 13) = 0 → (∃ (v1 : Int32), zE (d + 6) kX12_is 0 [some (.ref 420), some (.int 0)] [] Z I J (some (.int v1), Z, I, J) ∧ ((¬ v1 = 0 → zE (d + 7) kX12_read 139 [some (.ref 420), none] [] Z I J o) ∧ (v1 = 0 → (∃ (I2 : zI) (J3 : zJ), zE (d + 6) kX12_tell0 0 [some (.ref 420), none, none] [] Z I J (none, Z, I2, J3) ∧ zE (d + 7) kX12_read 117 [some (.ref 420), none] [] Z I2 J3 o))))))) : zE (d + 7) kX12_read 117 [some (.ref 420), none] [] Z I J o := by
  refine ex_step (pc' := 118) dX12_read_117 rfl ?_
  refine ex_geti dX12_read_118 wf_RX12_228 (ly_a420 hL) rfl ?_
  refine ex_if (pc' := 139) dX12_read_121 (by decide) (fun c => ?_) (fun c => ?_)
  · have h := h.1 c
    exact h
  · have h := h.2 (Classical.not_not.mp c)
    refine ex_step (pc' := 125) dX12_read_124 rfl ?_
    refine ex_step (pc' := 126) (st' := [.int 0, .ref 420]) dX12_read_125 rfl ?_
    obtain ⟨v1, hc, h⟩ := h
    refine ex_callV (as := [.int 0]) (st := []) (ci := 12) dX12_read_126 zmX12_is zl_RX12_246 ziX12_is zvX12_is (by decide) (ly_a420 hL) rfl (Nat.le_of_ble_eq_true rfl) (Nat.le_of_ble_eq_true rfl) hc ?_
    refine ex_if (pc' := 139) dX12_read_129 (by decide) (fun c => ?_) (fun c => ?_)
    · have h := h.1 c
      exact h
    · have h := h.2 (Classical.not_not.mp c)
      refine ex_step (pc' := 133) dX12_read_132 rfl ?_
      obtain ⟨I2, J3, hc, h⟩ := h
      refine ex_callV (as := []) (st := []) (ci := 12) dX12_read_133 zmX12_tell0 zl_RX12_276 ziX12_tell0 zvX12_tell0 (by decide) (ly_a420 hL) rfl (Nat.le_of_ble_eq_true rfl) (Nat.le_of_ble_eq_true rfl) hc ?_
      refine ex_step (pc' := 117) dX12_read_136 rfl ?_
      exact h
set_option maxHeartbeats 4000000 in
theorem BX12_read_139 {d : Nat} {Z : zZ} {I : zI} {J : zJ} {o : zO} {t u : Nat}  (hL : zLY Z t u)  (h : zE (d + 7) kX12_read 141 [some (.ref 420), some (.int 0)] [] Z I J o) : zE (d + 7) kX12_read 139 [some (.ref 420), none] [] Z I J o := by
  refine ex_step (pc' := 140) (st' := [.int 0]) dX12_read_139 rfl ?_
  refine ex_step (pc' := 141) (ls' := [some (.ref 420), some (.int 0)]) dX12_read_140 rfl ?_
  exact h
set_option maxHeartbeats 4000000 in
theorem BX12_read_141 {d : Nat} {Z : zZ} {I : zI} {J : zJ} {o : zO} {t u : Nat} (x1 : Int32) (hL : zLY Z t u)  (h : (((I 420 35) ≤ x1 → zE (d + 7) kX12_read 217 [some (.ref 420), none] [] Z I J o) ∧ (¬ (I 420 35) ≤ x1 → ((¬ (I 420 13) = 0 → zE (d + 7) kX12_read 217 [some (.ref 420), none] [] Z I J o) ∧ ((I 420 13) = 0 → ((¬ (I 420 15) = 0 → zE (d + 7) kX12_read 217 [some (.ref 420), none] [] Z I J o) ∧ ((I 420 15) = 0 → (vp_in x1 49 ∧ (vp_in (I 420 19) 2 ∧ (((I 429 (I 420 19).toNatClampNeg) ≤ (I 442 x1.toNatClampNeg) → zE (d + 7) kX12_read 199 [some (.ref 420), some (.int x1)] [] Z I J o) ∧ (¬ (I 429 (I 420 19).toNatClampNeg) ≤ (I 442 x1.toNatClampNeg) → (vp_in x1 49 ∧ (vp_in (I 420 19) 2 ∧ (((I 443 x1.toNatClampNeg) < (I 430 (I 420 19).toNatClampNeg) → zE (d + 7) kX12_read 211 [some (.ref 420), some (.int x1)] [] Z I J o) ∧ (¬ (I 443 x1.toNatClampNeg) < (I 430 (I 420 19).toNatClampNeg) → zE (d + 7) kX12_read 199 [some (.ref 420), some (.int x1)] [] Z I J o))))))))))))))) : zE (d + 7) kX12_read 141 [some (.ref 420), some (.int x1)] [] Z I J o := by
  refine ex_step (pc' := 142) dX12_read_141 rfl ?_
  refine ex_step (pc' := 143) dX12_read_142 rfl ?_
  refine ex_geti dX12_read_143 wf_RX12_267 (ly_a420 hL) rfl ?_
  refine ex_icmp (pc' := 217) dX12_read_146 (by decide) (fun c => ?_) (fun c => ?_)
  · have h := h.1 c
    exact ex_less (ls' := [some (.ref 420), none]) ⟨rfl, trivial⟩ h
  · have h := h.2 c
    refine ex_step (pc' := 150) dX12_read_149 rfl ?_
    refine ex_geti dX12_read_150 wf_RX12_228 (ly_a420 hL) rfl ?_
    refine ex_if (pc' := 217) dX12_read_153 (by decide) (fun c => ?_) (fun c => ?_)
    · have h := h.1 c
      exact ex_less (ls' := [some (.ref 420), none]) ⟨rfl, trivial⟩ h
    · have h := h.2 (Classical.not_not.mp c)
      refine ex_step (pc' := 157) dX12_read_156 rfl ?_
      refine ex_geti dX12_read_157 wf_RX12_237 (ly_a420 hL) rfl ?_
      refine ex_if (pc' := 217) dX12_read_160 (by decide) (fun c => ?_) (fun c => ?_)
      · have h := h.1 c
        exact ex_less (ls' := [some (.ref 420), none]) ⟨rfl, trivial⟩ h
      · have h := h.2 (Classical.not_not.mp c)
        refine ex_step (pc' := 164) dX12_read_163 rfl ?_
        refine ex_getr dX12_read_164 wf_RX12_82 (ly_a420 hL) rfl (ly_r420_36 hL) ?_
        refine ex_step (pc' := 168) dX12_read_167 rfl ?_
        obtain ⟨hv, h⟩ := h
        refine ex_iald dX12_read_168 (Or.inl (ly_a442 hL)) hv ?_
        refine ex_step (pc' := 170) dX12_read_169 rfl ?_
        refine ex_getr dX12_read_170 wf_RX12_43 (ly_a420 hL) rfl (ly_r420_22 hL) ?_
        refine ex_step (pc' := 174) dX12_read_173 rfl ?_
        refine ex_geti dX12_read_174 wf_RX12_261 (ly_a420 hL) rfl ?_
        obtain ⟨hv, h⟩ := h
        refine ex_iald dX12_read_177 (Or.inl (ly_a429 hL)) hv ?_
        refine ex_icmp (pc' := 199) dX12_read_178 (by decide) (fun c => ?_) (fun c => ?_)
        · have h := h.1 c
          exact h
        · have h := h.2 c
          refine ex_step (pc' := 182) dX12_read_181 rfl ?_
          refine ex_getr dX12_read_182 wf_RX12_85 (ly_a420 hL) rfl (ly_r420_37 hL) ?_
          refine ex_step (pc' := 186) dX12_read_185 rfl ?_
          obtain ⟨hv, h⟩ := h
          refine ex_iald dX12_read_186 (Or.inl (ly_a443 hL)) hv ?_
          refine ex_step (pc' := 188) dX12_read_187 rfl ?_
          refine ex_getr dX12_read_188 wf_RX12_46 (ly_a420 hL) rfl (ly_r420_23 hL) ?_
          refine ex_step (pc' := 192) dX12_read_191 rfl ?_
          refine ex_geti dX12_read_192 wf_RX12_261 (ly_a420 hL) rfl ?_
          obtain ⟨hv, h⟩ := h
          refine ex_iald dX12_read_195 (Or.inl (ly_a430 hL)) hv ?_
          refine ex_icmp (pc' := 211) dX12_read_196 (by decide) (fun c => ?_) (fun c => ?_)
          · have h := h.1 c
            exact h
          · have h := h.2 c
            exact h
set_option maxHeartbeats 4000000 in
theorem BX12_read_199 {d : Nat} {Z : zZ} {I : zI} {J : zJ} {o : zO} {t u : Nat} (x1 : Int32) (hL : zLY Z t u)  (h : (vp_in x1 49 ∧ (∃ (I1 : zI), zE (d + 6) kX12_wrong 0 [some (.ref 420), some (.int 6), some (.int (I 444 x1.toNatClampNeg)), none] [] Z I J (none, Z, I1, J) ∧ zE (d + 7) kX12_read 211 [some (.ref 420), some (.int x1)] [] Z I1 J o))) : zE (d + 7) kX12_read 199 [some (.ref 420), some (.int x1)] [] Z I J o := by
  refine ex_step (pc' := 200) dX12_read_199 rfl ?_
  refine ex_step (pc' := 202) (st' := [.int 6, .ref 420]) dX12_read_200 rfl ?_
  refine ex_step (pc' := 203) dX12_read_202 rfl ?_
  refine ex_getr dX12_read_203 wf_RX12_88 (ly_a420 hL) rfl (ly_r420_38 hL) ?_
  refine ex_step (pc' := 207) dX12_read_206 rfl ?_
  obtain ⟨hv, h⟩ := h
  refine ex_iald dX12_read_207 (Or.inl (ly_a444 hL)) hv ?_
  obtain ⟨I1, hc, h⟩ := h
  refine ex_callV (as := [.int 6, .int (I 444 x1.toNatClampNeg)]) (st := []) (ci := 12) dX12_read_208 zmX12_wrong zl_RX12_279 ziX12_wrong zvX12_wrong (by decide) (ly_a420 hL) rfl (Nat.le_of_ble_eq_true rfl) (Nat.le_of_ble_eq_true rfl) hc ?_
  exact h
set_option maxHeartbeats 4000000 in
theorem BX12_read_211 {d : Nat} {Z : zZ} {I : zI} {J : zJ} {o : zO} {t u : Nat} (x1 : Int32) (hL : zLY Z t u)  (h : zE (d + 7) kX12_read 141 [some (.ref 420), some (.int (x1 + 1))] [] Z I J o) : zE (d + 7) kX12_read 211 [some (.ref 420), some (.int x1)] [] Z I J o := by
  refine ex_step (pc' := 214) (ls' := [some (.ref 420), some (.int (x1 + 1))]) dX12_read_211 rfl ?_
  refine ex_step (pc' := 141) dX12_read_214 rfl ?_
  exact h
set_option maxHeartbeats 4000000 in
theorem BX12_read_217 {d : Nat} {Z : zZ} {I : zI} {J : zJ} {o : zO} {t u : Nat}  (hL : zLY Z t u)  (h : (((I 420 13) ≤ 0 → (((I 420 15) ≤ 0 → (∀ I1 : zI, I1 = zu I 420 17 (-1) → (((I1 420 13) ≤ 0 → (((I1 420 15) ≤ 0 → (∀ I2 : zI, I2 = zu I1 420 18 (I1 420 19) → (∃ (I3 : zI), zE (d + 6) kX12_begins 0 [some (.ref 420), none] [] Z I2 J (none, Z, I3, J) ∧ (∃ (I4 : zI), zE (d + 6) kX12_keepsRow 0 [some (.ref 420), none] [] Z I3 J (none, Z, I4, J) ∧ (∀ I5 : zI, I5 = zu I4 420 58 0 → (∀ I6 : zI, I6 = zu I5 420 69 0 → zE (d + 7) kX12_read 302 [some (.ref 420), some (.int 0)] [] Z I6 J o)))))) ∧ (¬ (I1 420 15) ≤ 0 → o = (some (.int (I1 420 15)), Z, I1, J)))) ∧ (¬ (I1 420 13) ≤ 0 → o = (some (.int (I1 420 13)), Z, I1, J))))) ∧ (¬ (I 420 15) ≤ 0 → (∀ I7 : zI, I7 = zu I 420 17 (I 420 16) → (((I7 420 13) ≤ 0 → (((I7 420 15) ≤ 0 → (∀ I8 : zI, I8 = zu I7 420 18 (I7 420 19) → (∃ (I9 : zI), zE (d + 6) kX12_begins 0 [some (.ref 420), none] [] Z I8 J (none, Z, I9, J) ∧ (∃ (I10 : zI), zE (d + 6) kX12_keepsRow 0 [some (.ref 420), none] [] Z I9 J (none, Z, I10, J) ∧ (∀ I11 : zI, I11 = zu I10 420 58 0 → (∀ I12 : zI, I12 = zu I11 420 69 0 → zE (d + 7) kX12_read 302 [some (.ref 420), some (.int 0)] [] Z I12 J o)))))) ∧ (¬ (I7 420 15) ≤ 0 → o = (some (.int (I7 420 15)), Z, I7, J)))) ∧ (¬ (I7 420 13) ≤ 0 → o = (some (.int (I7 420 13)), Z, I7, J))))))) ∧ (¬ (I 420 13) ≤ 0 → (∀ I13 : zI, I13 = zu I 420 17 (I 420 14) → (((I13 420 13) ≤ 0 → (((I13 420 15) ≤ 0 → (∀ I14 : zI, I14 = zu I13 420 18 (I13 420 19) → (∃ (I15 : zI), zE (d + 6) kX12_begins 0 [some (.ref 420), none] [] Z I14 J (none, Z, I15, J) ∧ (∃ (I16 : zI), zE (d + 6) kX12_keepsRow 0 [some (.ref 420), none] [] Z I15 J (none, Z, I16, J) ∧ (∀ I17 : zI, I17 = zu I16 420 58 0 → (∀ I18 : zI, I18 = zu I17 420 69 0 → zE (d + 7) kX12_read 302 [some (.ref 420), some (.int 0)] [] Z I18 J o)))))) ∧ (¬ (I13 420 15) ≤ 0 → o = (some (.int (I13 420 15)), Z, I13, J)))) ∧ (¬ (I13 420 13) ≤ 0 → o = (some (.int (I13 420 13)), Z, I13, J))))))) : zE (d + 7) kX12_read 217 [some (.ref 420), none] [] Z I J o := by
  refine ex_step (pc' := 218) dX12_read_217 rfl ?_
  refine ex_step (pc' := 219) dX12_read_218 rfl ?_
  refine ex_geti dX12_read_219 wf_RX12_228 (ly_a420 hL) rfl ?_
  refine ex_if (pc' := 232) dX12_read_222 (by decide) (fun c => ?_) (fun c => ?_)
  · have h := h.1 c
    refine ex_step (pc' := 233) dX12_read_232 rfl ?_
    refine ex_geti dX12_read_233 wf_RX12_237 (ly_a420 hL) rfl ?_
    refine ex_if (pc' := 246) dX12_read_236 (by decide) (fun c => ?_) (fun c => ?_)
    · have h := h.1 c
      refine ex_step (pc' := 247) (st' := [.int (-1), .ref 420]) dX12_read_246 rfl ?_
      refine ex_putiN dX12_read_247 (wp_RX12_37 _) (ly_a420 hL) rfl ⟨rfl, rfl⟩ (fun I1 eI1 => ?_)
      have h := h I1 eI1
      refine ex_step (pc' := 251) dX12_read_250 rfl ?_
      refine ex_geti dX12_read_251 wf_RX12_228 (ly_a420 hL) rfl ?_
      refine ex_if (pc' := 262) dX12_read_254 (by decide) (fun c => ?_) (fun c => ?_)
      · have h := h.1 c
        refine ex_step (pc' := 263) dX12_read_262 rfl ?_
        refine ex_geti dX12_read_263 wf_RX12_237 (ly_a420 hL) rfl ?_
        refine ex_if (pc' := 274) dX12_read_266 (by decide) (fun c => ?_) (fun c => ?_)
        · have h := h.1 c
          refine ex_step (pc' := 275) dX12_read_274 rfl ?_
          refine ex_step (pc' := 276) dX12_read_275 rfl ?_
          refine ex_geti dX12_read_276 wf_RX12_261 (ly_a420 hL) rfl ?_
          refine ex_putiN dX12_read_279 (wp_RX12_258 _) (ly_a420 hL) rfl ⟨rfl, rfl⟩ (fun I2 eI2 => ?_)
          have h := h I2 eI2
          refine ex_step (pc' := 283) dX12_read_282 rfl ?_
          obtain ⟨I3, hc, h⟩ := h
          refine ex_callV (as := []) (st := []) (ci := 12) dX12_read_283 zmX12_begins zl_RX12_185 ziX12_begins zvX12_begins (by decide) (ly_a420 hL) rfl (Nat.le_of_ble_eq_true rfl) (Nat.le_of_ble_eq_true rfl) hc ?_
          refine ex_step (pc' := 287) dX12_read_286 rfl ?_
          obtain ⟨I4, hc, h⟩ := h
          refine ex_callV (as := []) (st := []) (ci := 12) dX12_read_287 zmX12_keepsRow zl_RX12_188 ziX12_keepsRow zvX12_keepsRow (by decide) (ly_a420 hL) rfl (Nat.le_of_ble_eq_true rfl) (Nat.le_of_ble_eq_true rfl) hc ?_
          refine ex_step (pc' := 291) dX12_read_290 rfl ?_
          refine ex_step (pc' := 292) (st' := [.int 0, .ref 420]) dX12_read_291 rfl ?_
          refine ex_putiN dX12_read_292 (wp_RX12_283 _) (ly_a420 hL) rfl ⟨rfl, rfl⟩ (fun I5 eI5 => ?_)
          have h := h I5 eI5
          refine ex_step (pc' := 296) dX12_read_295 rfl ?_
          refine ex_step (pc' := 297) (st' := [.int 0, .ref 420]) dX12_read_296 rfl ?_
          refine ex_putiN dX12_read_297 (wp_RX12_286 _) (ly_a420 hL) rfl ⟨rfl, rfl⟩ (fun I6 eI6 => ?_)
          have h := h I6 eI6
          refine ex_step (pc' := 301) (st' := [.int 0]) dX12_read_300 rfl ?_
          refine ex_step (pc' := 302) (ls' := [some (.ref 420), some (.int 0)]) dX12_read_301 rfl ?_
          exact h
        · have h := h.2 c
          refine ex_step (pc' := 270) dX12_read_269 rfl ?_
          refine ex_geti dX12_read_270 wf_RX12_237 (ly_a420 hL) rfl ?_
          rw [h]; exact ex_ret (v := some (.int (I1 420 15))) ⟨dX12_read_273, _, rfl, rfl⟩
      · have h := h.2 c
        refine ex_step (pc' := 258) dX12_read_257 rfl ?_
        refine ex_geti dX12_read_258 wf_RX12_228 (ly_a420 hL) rfl ?_
        rw [h]; exact ex_ret (v := some (.int (I1 420 13))) ⟨dX12_read_261, _, rfl, rfl⟩
    · have h := h.2 c
      refine ex_step (pc' := 240) dX12_read_239 rfl ?_
      refine ex_geti dX12_read_240 wf_RX12_240 (ly_a420 hL) rfl ?_
      refine ex_step (pc' := 247) dX12_read_243 rfl ?_
      refine ex_putiN dX12_read_247 (wp_RX12_37 _) (ly_a420 hL) rfl ⟨rfl, rfl⟩ (fun I7 eI7 => ?_)
      have h := h I7 eI7
      refine ex_step (pc' := 251) dX12_read_250 rfl ?_
      refine ex_geti dX12_read_251 wf_RX12_228 (ly_a420 hL) rfl ?_
      refine ex_if (pc' := 262) dX12_read_254 (by decide) (fun c => ?_) (fun c => ?_)
      · have h := h.1 c
        refine ex_step (pc' := 263) dX12_read_262 rfl ?_
        refine ex_geti dX12_read_263 wf_RX12_237 (ly_a420 hL) rfl ?_
        refine ex_if (pc' := 274) dX12_read_266 (by decide) (fun c => ?_) (fun c => ?_)
        · have h := h.1 c
          refine ex_step (pc' := 275) dX12_read_274 rfl ?_
          refine ex_step (pc' := 276) dX12_read_275 rfl ?_
          refine ex_geti dX12_read_276 wf_RX12_261 (ly_a420 hL) rfl ?_
          refine ex_putiN dX12_read_279 (wp_RX12_258 _) (ly_a420 hL) rfl ⟨rfl, rfl⟩ (fun I8 eI8 => ?_)
          have h := h I8 eI8
          refine ex_step (pc' := 283) dX12_read_282 rfl ?_
          obtain ⟨I9, hc, h⟩ := h
          refine ex_callV (as := []) (st := []) (ci := 12) dX12_read_283 zmX12_begins zl_RX12_185 ziX12_begins zvX12_begins (by decide) (ly_a420 hL) rfl (Nat.le_of_ble_eq_true rfl) (Nat.le_of_ble_eq_true rfl) hc ?_
          refine ex_step (pc' := 287) dX12_read_286 rfl ?_
          obtain ⟨I10, hc, h⟩ := h
          refine ex_callV (as := []) (st := []) (ci := 12) dX12_read_287 zmX12_keepsRow zl_RX12_188 ziX12_keepsRow zvX12_keepsRow (by decide) (ly_a420 hL) rfl (Nat.le_of_ble_eq_true rfl) (Nat.le_of_ble_eq_true rfl) hc ?_
          refine ex_step (pc' := 291) dX12_read_290 rfl ?_
          refine ex_step (pc' := 292) (st' := [.int 0, .ref 420]) dX12_read_291 rfl ?_
          refine ex_putiN dX12_read_292 (wp_RX12_283 _) (ly_a420 hL) rfl ⟨rfl, rfl⟩ (fun I11 eI11 => ?_)
          have h := h I11 eI11
          refine ex_step (pc' := 296) dX12_read_295 rfl ?_
          refine ex_step (pc' := 297) (st' := [.int 0, .ref 420]) dX12_read_296 rfl ?_
          refine ex_putiN dX12_read_297 (wp_RX12_286 _) (ly_a420 hL) rfl ⟨rfl, rfl⟩ (fun I12 eI12 => ?_)
          have h := h I12 eI12
          refine ex_step (pc' := 301) (st' := [.int 0]) dX12_read_300 rfl ?_
          refine ex_step (pc' := 302) (ls' := [some (.ref 420), some (.int 0)]) dX12_read_301 rfl ?_
          exact h
        · have h := h.2 c
          refine ex_step (pc' := 270) dX12_read_269 rfl ?_
          refine ex_geti dX12_read_270 wf_RX12_237 (ly_a420 hL) rfl ?_
          rw [h]; exact ex_ret (v := some (.int (I7 420 15))) ⟨dX12_read_273, _, rfl, rfl⟩
      · have h := h.2 c
        refine ex_step (pc' := 258) dX12_read_257 rfl ?_
        refine ex_geti dX12_read_258 wf_RX12_228 (ly_a420 hL) rfl ?_
        rw [h]; exact ex_ret (v := some (.int (I7 420 13))) ⟨dX12_read_261, _, rfl, rfl⟩
  · have h := h.2 c
    refine ex_step (pc' := 226) dX12_read_225 rfl ?_
    refine ex_geti dX12_read_226 wf_RX12_234 (ly_a420 hL) rfl ?_
    refine ex_step (pc' := 247) dX12_read_229 rfl ?_
    refine ex_putiN dX12_read_247 (wp_RX12_37 _) (ly_a420 hL) rfl ⟨rfl, rfl⟩ (fun I13 eI13 => ?_)
    have h := h I13 eI13
    refine ex_step (pc' := 251) dX12_read_250 rfl ?_
    refine ex_geti dX12_read_251 wf_RX12_228 (ly_a420 hL) rfl ?_
    refine ex_if (pc' := 262) dX12_read_254 (by decide) (fun c => ?_) (fun c => ?_)
    · have h := h.1 c
      refine ex_step (pc' := 263) dX12_read_262 rfl ?_
      refine ex_geti dX12_read_263 wf_RX12_237 (ly_a420 hL) rfl ?_
      refine ex_if (pc' := 274) dX12_read_266 (by decide) (fun c => ?_) (fun c => ?_)
      · have h := h.1 c
        refine ex_step (pc' := 275) dX12_read_274 rfl ?_
        refine ex_step (pc' := 276) dX12_read_275 rfl ?_
        refine ex_geti dX12_read_276 wf_RX12_261 (ly_a420 hL) rfl ?_
        refine ex_putiN dX12_read_279 (wp_RX12_258 _) (ly_a420 hL) rfl ⟨rfl, rfl⟩ (fun I14 eI14 => ?_)
        have h := h I14 eI14
        refine ex_step (pc' := 283) dX12_read_282 rfl ?_
        obtain ⟨I15, hc, h⟩ := h
        refine ex_callV (as := []) (st := []) (ci := 12) dX12_read_283 zmX12_begins zl_RX12_185 ziX12_begins zvX12_begins (by decide) (ly_a420 hL) rfl (Nat.le_of_ble_eq_true rfl) (Nat.le_of_ble_eq_true rfl) hc ?_
        refine ex_step (pc' := 287) dX12_read_286 rfl ?_
        obtain ⟨I16, hc, h⟩ := h
        refine ex_callV (as := []) (st := []) (ci := 12) dX12_read_287 zmX12_keepsRow zl_RX12_188 ziX12_keepsRow zvX12_keepsRow (by decide) (ly_a420 hL) rfl (Nat.le_of_ble_eq_true rfl) (Nat.le_of_ble_eq_true rfl) hc ?_
        refine ex_step (pc' := 291) dX12_read_290 rfl ?_
        refine ex_step (pc' := 292) (st' := [.int 0, .ref 420]) dX12_read_291 rfl ?_
        refine ex_putiN dX12_read_292 (wp_RX12_283 _) (ly_a420 hL) rfl ⟨rfl, rfl⟩ (fun I17 eI17 => ?_)
        have h := h I17 eI17
        refine ex_step (pc' := 296) dX12_read_295 rfl ?_
        refine ex_step (pc' := 297) (st' := [.int 0, .ref 420]) dX12_read_296 rfl ?_
        refine ex_putiN dX12_read_297 (wp_RX12_286 _) (ly_a420 hL) rfl ⟨rfl, rfl⟩ (fun I18 eI18 => ?_)
        have h := h I18 eI18
        refine ex_step (pc' := 301) (st' := [.int 0]) dX12_read_300 rfl ?_
        refine ex_step (pc' := 302) (ls' := [some (.ref 420), some (.int 0)]) dX12_read_301 rfl ?_
        exact h
      · have h := h.2 c
        refine ex_step (pc' := 270) dX12_read_269 rfl ?_
        refine ex_geti dX12_read_270 wf_RX12_237 (ly_a420 hL) rfl ?_
        rw [h]; exact ex_ret (v := some (.int (I13 420 15))) ⟨dX12_read_273, _, rfl, rfl⟩
    · have h := h.2 c
      refine ex_step (pc' := 258) dX12_read_257 rfl ?_
      refine ex_geti dX12_read_258 wf_RX12_228 (ly_a420 hL) rfl ?_
      rw [h]; exact ex_ret (v := some (.int (I13 420 13))) ⟨dX12_read_261, _, rfl, rfl⟩
set_option maxHeartbeats 4000000 in
theorem BX12_read_302 {d : Nat} {Z : zZ} {I : zI} {J : zJ} {o : zO} {t u : Nat} (x1 : Int32) (hL : zLY Z t u)  (h : ((3 ≤ x1 → o = (some (.int 0), Z, I, J)) ∧ (¬ 3 ≤ x1 → (vp_in x1 3 ∧ (∀ I1 : zI, I1 = zu I 471 x1.toNatClampNeg (vp_nar .boolean 0) → zE (d + 7) kX12_read 302 [some (.ref 420), some (.int (x1 + 1))] [] Z I1 J o))))) : zE (d + 7) kX12_read 302 [some (.ref 420), some (.int x1)] [] Z I J o := by
  refine ex_step (pc' := 303) dX12_read_302 rfl ?_
  refine ex_step (pc' := 304) (st' := [.int 3, .int x1]) dX12_read_303 rfl ?_
  refine ex_icmp (pc' := 320) dX12_read_304 (by decide) (fun c => ?_) (fun c => ?_)
  · have h := h.1 c
    refine ex_step (pc' := 321) (st' := [.int 0]) dX12_read_320 rfl ?_
    rw [h]; exact ex_ret (v := some (.int 0)) ⟨dX12_read_321, _, rfl, rfl⟩
  · have h := h.2 c
    refine ex_step (pc' := 308) dX12_read_307 rfl ?_
    refine ex_getr dX12_read_308 wf_RX12_171 (ly_a420 hL) rfl (ly_r420_73 hL) ?_
    refine ex_step (pc' := 312) dX12_read_311 rfl ?_
    refine ex_step (pc' := 313) (st' := [.int 0, .int x1, .ref 471]) dX12_read_312 rfl ?_
    obtain ⟨hv, h⟩ := h
    refine ex_zastN dX12_read_313 (ly_a471 hL) hv (fun I1 eI1 => ?_)
    have h := h I1 eI1
    refine ex_step (pc' := 317) (ls' := [some (.ref 420), some (.int (x1 + 1))]) dX12_read_314 rfl ?_
    refine ex_step (pc' := 302) dX12_read_317 rfl ?_
    exact h
set_option maxHeartbeats 4000000 in
theorem BX12_place_0 {d : Nat} {Z : zZ} {I : zI} {J : zJ} {o : zO} {t u : Nat}  (hL : zLY Z t u)  (h : o = (some (.int (I 420 17)), Z, I, J)) : zE d kX12_place 0 [some (.ref 420)] [] Z I J o := by
  refine ex_step (pc' := 1) dX12_place_0 rfl ?_
  refine ex_geti dX12_place_1 wf_RX12_37 (ly_a420 hL) rfl ?_
  rw [h]; exact ex_ret (v := some (.int (I 420 17))) ⟨dX12_place_4, _, rfl, rfl⟩
set_option maxHeartbeats 4000000 in
theorem BX12_roomFor_0 {d : Nat} {Z : zZ} {I : zI} {J : zJ} {o : zO} {t u : Nat} (x1 : Int32) (x2 : Int32) (hL : zLY Z t u)  (h : ((¬ x1 = x2 → ((¬ (I 420 13) = 0 → o = (none, Z, I, J)) ∧ ((I 420 13) = 0 → (∃ (I1 : zI), zE (d + 1) kX12_goesOn 0 [some (.ref 420)] [] Z I J (none, Z, I1, J) ∧ o = (none, Z, I1, J))))) ∧ (x1 = x2 → (∃ (I2 : zI), zE (d + 1) kX12_fail 0 [some (.ref 420), some (.int 2)] [] Z I J (none, Z, I2, J) ∧ ((¬ (I2 420 13) = 0 → o = (none, Z, I2, J)) ∧ ((I2 420 13) = 0 → (∃ (I3 : zI), zE (d + 1) kX12_goesOn 0 [some (.ref 420)] [] Z I2 J (none, Z, I3, J) ∧ o = (none, Z, I3, J)))))))) : zE (d + 2) kX12_roomFor 0 [some (.ref 420), some (.int x1), some (.int x2)] [] Z I J o := by
  refine ex_step (pc' := 1) dX12_roomFor_0 rfl ?_
  refine ex_step (pc' := 2) dX12_roomFor_1 rfl ?_
  refine ex_icmp (pc' := 10) dX12_roomFor_2 (by decide) (fun c => ?_) (fun c => ?_)
  · have h := h.1 c
    refine ex_step (pc' := 11) dX12_roomFor_10 rfl ?_
    refine ex_geti dX12_roomFor_11 wf_RX12_228 (ly_a420 hL) rfl ?_
    refine ex_if (pc' := 21) dX12_roomFor_14 (by decide) (fun c => ?_) (fun c => ?_)
    · have h := h.1 c
      rw [h]; exact ex_ret (v := none) ⟨dX12_roomFor_21, rfl⟩
    · have h := h.2 (Classical.not_not.mp c)
      refine ex_step (pc' := 18) dX12_roomFor_17 rfl ?_
      obtain ⟨I1, hc, h⟩ := h
      refine ex_callV (as := []) (st := []) (ci := 12) dX12_roomFor_18 zmX12_goesOn zl_RX12_249 ziX12_goesOn zvX12_goesOn (by decide) (ly_a420 hL) rfl (Nat.le_of_ble_eq_true rfl) (Nat.le_of_ble_eq_true rfl) hc ?_
      rw [h]; exact ex_ret (v := none) ⟨dX12_roomFor_21, rfl⟩
  · have h := h.2 (Classical.not_not.mp c)
    refine ex_step (pc' := 6) dX12_roomFor_5 rfl ?_
    refine ex_step (pc' := 7) (st' := [.int 2, .ref 420]) dX12_roomFor_6 rfl ?_
    obtain ⟨I2, hc, h⟩ := h
    refine ex_callV (as := [.int 2]) (st := []) (ci := 12) dX12_roomFor_7 zmX12_fail zl_RX12_243 ziX12_fail zvX12_fail (by decide) (ly_a420 hL) rfl (Nat.le_of_ble_eq_true rfl) (Nat.le_of_ble_eq_true rfl) hc ?_
    refine ex_step (pc' := 11) dX12_roomFor_10 rfl ?_
    refine ex_geti dX12_roomFor_11 wf_RX12_228 (ly_a420 hL) rfl ?_
    refine ex_if (pc' := 21) dX12_roomFor_14 (by decide) (fun c => ?_) (fun c => ?_)
    · have h := h.1 c
      rw [h]; exact ex_ret (v := none) ⟨dX12_roomFor_21, rfl⟩
    · have h := h.2 (Classical.not_not.mp c)
      refine ex_step (pc' := 18) dX12_roomFor_17 rfl ?_
      obtain ⟨I3, hc, h⟩ := h
      refine ex_callV (as := []) (st := []) (ci := 12) dX12_roomFor_18 zmX12_goesOn zl_RX12_249 ziX12_goesOn zvX12_goesOn (by decide) (ly_a420 hL) rfl (Nat.le_of_ble_eq_true rfl) (Nat.le_of_ble_eq_true rfl) hc ?_
      rw [h]; exact ex_ret (v := none) ⟨dX12_roomFor_21, rfl⟩
set_option maxHeartbeats 4000000 in
theorem BX12_tell0_0 {d : Nat} {Z : zZ} {I : zI} {J : zJ} {o : zO} {t u : Nat}  (hL : zLY Z t u)  (h : (vp_in (I 420 11) 403 ∧ (((I 423 (I 420 11).toNatClampNeg).toInt < 20 ∨ 27 < (I 423 (I 420 11).toNatClampNeg).toInt → (∃ (I1 : zI), zE (d + 5) kX12_fail 0 [some (.ref 420), some (.int 1)] [] Z I J (none, Z, I1, J) ∧ o = (none, Z, I1, J))) ∧ ((I 423 (I 420 11).toNatClampNeg) = 20 → (∃ (I2 : zI), zE (d + 5) kX12_goesOn 0 [some (.ref 420)] [] Z I J (none, Z, I2, J) ∧ (∃ (v3 : Int32) (I4 : zI), zE (d + 5) kX12_bounded 0 [some (.ref 420), some (.int 2), some (.int 12), none] [] Z I2 J (some (.int v3), Z, I4, J) ∧ (vp_in (I2 420 19) 2 ∧ (∀ I5 : zI, I5 = zu I4 429 (I2 420 19).toNatClampNeg v3 → (∃ (v6 : Int32) (I7 : zI), zE (d + 5) kX12_bounded 0 [some (.ref 420), some (.int 2), some (.int 12), none] [] Z I5 J (some (.int v6), Z, I7, J) ∧ (vp_in (I5 420 19) 2 ∧ (∀ I8 : zI, I8 = zu I7 430 (I5 420 19).toNatClampNeg v6 → (∃ (I9 : zI), zE (d + 5) kX12_must 0 [some (.ref 420), some (.int 4)] [] Z I8 J (none, Z, I9, J) ∧ o = (none, Z, I9, J)))))))))) ∧ ((I 423 (I 420 11).toNatClampNeg) = 21 → (vp_in (I 420 19) 2 ∧ (∃ (I10 : zI), zE (d + 5) kX12_roomFor 0 [some (.ref 420), some (.int (I 431 (I 420 19).toNatClampNeg)), some (.int 7)] [] Z I J (none, Z, I10, J) ∧ ((¬ (I10 420 13) = 0 → o = (none, Z, I10, J)) ∧ ((I10 420 13) = 0 → (∃ (I11 : zI) (J12 : zJ), zE (d + 5) kX12_tellMan 0 [some (.ref 420), none, none, none] [] Z I10 J (none, Z, I11, J12) ∧ o = (none, Z, I11, J12))))))) ∧ ((I 423 (I 420 11).toNatClampNeg) = 22 → (∃ (I13 : zI), zE (d + 5) kX12_goesOn 0 [some (.ref 420)] [] Z I J (none, Z, I13, J) ∧ (∃ (v14 : Int32) (I15 : zI), zE (d + 5) kX12_known 0 [some (.ref 420), none, none] [] Z I13 J (some (.int v14), Z, I15, J) ∧ (∃ (I16 : zI), zE (d + 5) kX12_tellLaw 0 [some (.ref 420), some (.int v14), none, none] [] Z I15 J (none, Z, I16, J) ∧ o = (none, Z, I16, J))))) ∧ ((I 423 (I 420 11).toNatClampNeg) = 23 → (∃ (I17 : zI), zE (d + 5) kX12_goesOn 0 [some (.ref 420)] [] Z I J (none, Z, I17, J) ∧ (∃ (I18 : zI), zE (d + 5) kX12_tellLaw 0 [some (.ref 420), some (.int 7), none, none] [] Z I17 J (none, Z, I18, J) ∧ o = (none, Z, I18, J)))) ∧ ((I 423 (I 420 11).toNatClampNeg) = 24 → (∃ (I19 : zI), zE (d + 5) kX12_tellErrand 0 [some (.ref 420), none, none, none, none, none] [] Z I J (none, Z, I19, J) ∧ o = (none, Z, I19, J))) ∧ ((I 423 (I 420 11).toNatClampNeg) = 25 → (vp_in (I 420 19) 2 ∧ (∃ (I20 : zI), zE (d + 5) kX12_roomFor 0 [some (.ref 420), some (.int (I 438 (I 420 19).toNatClampNeg)), some (.int 6)] [] Z I J (none, Z, I20, J) ∧ ((¬ (I20 420 13) = 0 → o = (none, Z, I20, J)) ∧ ((I20 420 13) = 0 → (∃ (I21 : zI), zE (d + 5) kX12_tellPillar 0 [some (.ref 420), none] [] Z I20 J (none, Z, I21, J) ∧ o = (none, Z, I21, J))))))) ∧ ((I 423 (I 420 11).toNatClampNeg) = 26 → (∃ (I22 : zI), zE (d + 5) kX12_goesOn 0 [some (.ref 420)] [] Z I J (none, Z, I22, J) ∧ (∃ (v23 : Int32) (I24 : zI), zE (d + 5) kX12_known 0 [some (.ref 420), none, none] [] Z I22 J (some (.int v23), Z, I24, J) ∧ (∃ (v25 : Int32) (I26 : zI), zE (d + 5) kX12_bounded 0 [some (.ref 420), some (.int 0), some (.int 9), none] [] Z I24 J (some (.int v25), Z, I26, J) ∧ (∃ (I27 : zI), zE (d + 5) kX12_must 0 [some (.ref 420), some (.int 4)] [] Z I26 J (none, Z, I27, J) ∧ ((¬ (I27 420 13) = 0 → o = (none, Z, I27, J)) ∧ ((I27 420 13) = 0 → ((v23 < 0 → o = (none, Z, I27, J)) ∧ (¬ v23 < 0 → (vp_in (((7 : Int32) * (I27 420 19)) + v23) 14 ∧ (∀ I28 : zI, I28 = zu I27 434 (((7 : Int32) * (I27 420 19)) + v23).toNatClampNeg v25 → o = (none, Z, I28, J)))))))))))) ∧ ((I 423 (I 420 11).toNatClampNeg) = 27 → (∃ (I29 : zI), zE (d + 5) kX12_goesOn 0 [some (.ref 420)] [] Z I J (none, Z, I29, J) ∧ (∃ (v30 : Int32) (I31 : zI), zE (d + 5) kX12_bounded 0 [some (.ref 420), some (.int 0), some (.int 9999), none] [] Z I29 J (some (.int v30), Z, I31, J) ∧ (vp_in (I29 420 19) 2 ∧ (∀ I32 : zI, I32 = zu I31 441 (I29 420 19).toNatClampNeg v30 → (∃ (I33 : zI), zE (d + 5) kX12_must 0 [some (.ref 420), some (.int 4)] [] Z I32 J (none, Z, I33, J) ∧ o = (none, Z, I33, J)))))))))) : zE (d + 6) kX12_tell0 0 [some (.ref 420), none, none] [] Z I J o := by
  refine ex_step (pc' := 1) dX12_tell0_0 rfl ?_
  refine ex_getr dX12_tell0_1 wf_RX12_20 (ly_a420 hL) rfl (ly_r420_5 hL) ?_
  refine ex_step (pc' := 5) dX12_tell0_4 rfl ?_
  refine ex_geti dX12_tell0_5 wf_RX12_231 (ly_a420 hL) rfl ?_
  obtain ⟨hv, h⟩ := h
  refine ex_iald dX12_tell0_8 (Or.inl (ly_a423 hL)) hv ?_
  refine ex_tab dX12_tell0_9 (fun c => ?_) (fun k off hk ho hx => ?_)
  · refine ⟨273, by decide, ?_⟩
    have h := h.1 c
    refine ex_step (pc' := 274) dX12_tell0_273 rfl ?_
    refine ex_step (pc' := 275) (st' := [.int 1, .ref 420]) dX12_tell0_274 rfl ?_
    obtain ⟨I1, hc, h⟩ := h
    refine ex_callV (as := [.int 1]) (st := []) (ci := 12) dX12_tell0_275 zmX12_fail zl_RX12_243 ziX12_fail zvX12_fail (by decide) (ly_a420 hL) rfl (Nat.le_of_ble_eq_true rfl) (Nat.le_of_ble_eq_true rfl) hc ?_
    rw [h]; exact ex_ret (v := none) ⟨dX12_tell0_278, rfl⟩
  · have h := h.2
    match k, hk, ho, hx with
    | 0, hk, ho, hx =>
      cases ho
      refine ⟨56, by decide, ?_⟩
      have h := h.1 (Int32.toInt_inj.mp (hx.trans (by decide)))
      refine ex_step (pc' := 57) dX12_tell0_56 rfl ?_
      obtain ⟨I2, hc, h⟩ := h
      refine ex_callV (as := []) (st := []) (ci := 12) dX12_tell0_57 zmX12_goesOn zl_RX12_249 ziX12_goesOn zvX12_goesOn (by decide) (ly_a420 hL) rfl (Nat.le_of_ble_eq_true rfl) (Nat.le_of_ble_eq_true rfl) hc ?_
      refine ex_step (pc' := 61) dX12_tell0_60 rfl ?_
      refine ex_getr dX12_tell0_61 wf_RX12_43 (ly_a420 hL) rfl (ly_r420_22 hL) ?_
      refine ex_step (pc' := 65) dX12_tell0_64 rfl ?_
      refine ex_geti dX12_tell0_65 wf_RX12_261 (ly_a420 hL) rfl ?_
      refine ex_step (pc' := 69) dX12_tell0_68 rfl ?_
      refine ex_step (pc' := 70) (st' := [.int 2, .ref 420, .int (I2 420 19), .ref 429]) dX12_tell0_69 rfl ?_
      refine ex_step (pc' := 72) (st' := [.int 12, .int 2, .ref 420, .int (I2 420 19), .ref 429]) dX12_tell0_70 rfl ?_
      obtain ⟨v3, I4, hc, h⟩ := h
      refine ex_callV (as := [.int 2, .int 12]) (st := [.int (I2 420 19), .ref 429]) (ci := 12) dX12_tell0_72 zmX12_bounded zl_RX12_289 ziX12_bounded zvX12_bounded (by decide) (ly_a420 hL) rfl (Nat.le_of_ble_eq_true rfl) (Nat.le_of_ble_eq_true rfl) hc ?_
      obtain ⟨hv, h⟩ := h
      refine ex_iastN dX12_tell0_75 (ly_a429 hL) hv (fun I5 eI5 => ?_)
      have h := h I5 eI5
      refine ex_step (pc' := 77) dX12_tell0_76 rfl ?_
      refine ex_getr dX12_tell0_77 wf_RX12_46 (ly_a420 hL) rfl (ly_r420_23 hL) ?_
      refine ex_step (pc' := 81) dX12_tell0_80 rfl ?_
      refine ex_geti dX12_tell0_81 wf_RX12_261 (ly_a420 hL) rfl ?_
      refine ex_step (pc' := 85) dX12_tell0_84 rfl ?_
      refine ex_step (pc' := 86) (st' := [.int 2, .ref 420, .int (I5 420 19), .ref 430]) dX12_tell0_85 rfl ?_
      refine ex_step (pc' := 88) (st' := [.int 12, .int 2, .ref 420, .int (I5 420 19), .ref 430]) dX12_tell0_86 rfl ?_
      obtain ⟨v6, I7, hc, h⟩ := h
      refine ex_callV (as := [.int 2, .int 12]) (st := [.int (I5 420 19), .ref 430]) (ci := 12) dX12_tell0_88 zmX12_bounded zl_RX12_289 ziX12_bounded zvX12_bounded (by decide) (ly_a420 hL) rfl (Nat.le_of_ble_eq_true rfl) (Nat.le_of_ble_eq_true rfl) hc ?_
      obtain ⟨hv, h⟩ := h
      refine ex_iastN dX12_tell0_91 (ly_a430 hL) hv (fun I8 eI8 => ?_)
      have h := h I8 eI8
      refine ex_step (pc' := 93) dX12_tell0_92 rfl ?_
      refine ex_step (pc' := 94) (st' := [.int 4, .ref 420]) dX12_tell0_93 rfl ?_
      obtain ⟨I9, hc, h⟩ := h
      refine ex_callV (as := [.int 4]) (st := []) (ci := 12) dX12_tell0_94 zmX12_must zl_RX12_293 ziX12_must zvX12_must (by decide) (ly_a420 hL) rfl (Nat.le_of_ble_eq_true rfl) (Nat.le_of_ble_eq_true rfl) hc ?_
      refine ex_step (pc' := 278) dX12_tell0_97 rfl ?_
      rw [h]; exact ex_ret (v := none) ⟨dX12_tell0_278, rfl⟩
    | 1, hk, ho, hx =>
      cases ho
      refine ⟨100, by decide, ?_⟩
      have h := h.2.1 (Int32.toInt_inj.mp (hx.trans (by decide)))
      refine ex_step (pc' := 101) dX12_tell0_100 rfl ?_
      refine ex_step (pc' := 102) dX12_tell0_101 rfl ?_
      refine ex_getr dX12_tell0_102 wf_RX12_49 (ly_a420 hL) rfl (ly_r420_24 hL) ?_
      refine ex_step (pc' := 106) dX12_tell0_105 rfl ?_
      refine ex_geti dX12_tell0_106 wf_RX12_261 (ly_a420 hL) rfl ?_
      obtain ⟨hv, h⟩ := h
      refine ex_iald dX12_tell0_109 (Or.inl (ly_a431 hL)) hv ?_
      refine ex_step (pc' := 112) (st' := [.int 7, .int (I 431 (I 420 19).toNatClampNeg), .ref 420]) dX12_tell0_110 rfl ?_
      obtain ⟨I10, hc, h⟩ := h
      refine ex_callV (as := [.int (I 431 (I 420 19).toNatClampNeg), .int 7]) (st := []) (ci := 12) dX12_tell0_112 zmX12_roomFor zl_RX12_296 ziX12_roomFor zvX12_roomFor (by decide) (ly_a420 hL) rfl (Nat.le_of_ble_eq_true rfl) (Nat.le_of_ble_eq_true rfl) hc ?_
      refine ex_step (pc' := 116) dX12_tell0_115 rfl ?_
      refine ex_geti dX12_tell0_116 wf_RX12_228 (ly_a420 hL) rfl ?_
      refine ex_if (pc' := 278) dX12_tell0_119 (by decide) (fun c => ?_) (fun c => ?_)
      · have h := h.1 c
        rw [h]; exact ex_ret (v := none) ⟨dX12_tell0_278, rfl⟩
      · have h := h.2 (Classical.not_not.mp c)
        refine ex_step (pc' := 123) dX12_tell0_122 rfl ?_
        obtain ⟨I11, J12, hc, h⟩ := h
        refine ex_callV (as := []) (st := []) (ci := 12) dX12_tell0_123 zmX12_tellMan zl_RX12_299 ziX12_tellMan zvX12_tellMan (by decide) (ly_a420 hL) rfl (Nat.le_of_ble_eq_true rfl) (Nat.le_of_ble_eq_true rfl) hc ?_
        refine ex_step (pc' := 278) dX12_tell0_126 rfl ?_
        rw [h]; exact ex_ret (v := none) ⟨dX12_tell0_278, rfl⟩
    | 2, hk, ho, hx =>
      cases ho
      refine ⟨129, by decide, ?_⟩
      have h := h.2.2.1 (Int32.toInt_inj.mp (hx.trans (by decide)))
      refine ex_step (pc' := 130) dX12_tell0_129 rfl ?_
      obtain ⟨I13, hc, h⟩ := h
      refine ex_callV (as := []) (st := []) (ci := 12) dX12_tell0_130 zmX12_goesOn zl_RX12_249 ziX12_goesOn zvX12_goesOn (by decide) (ly_a420 hL) rfl (Nat.le_of_ble_eq_true rfl) (Nat.le_of_ble_eq_true rfl) hc ?_
      refine ex_step (pc' := 134) dX12_tell0_133 rfl ?_
      refine ex_step (pc' := 135) dX12_tell0_134 rfl ?_
      obtain ⟨v14, I15, hc, h⟩ := h
      refine ex_callV (as := []) (st := [.ref 420]) (ci := 12) dX12_tell0_135 zmX12_known zl_RX12_302 ziX12_known zvX12_known (by decide) (ly_a420 hL) rfl (Nat.le_of_ble_eq_true rfl) (Nat.le_of_ble_eq_true rfl) hc ?_
      obtain ⟨I16, hc, h⟩ := h
      refine ex_callV (as := [.int v14]) (st := []) (ci := 12) dX12_tell0_138 zmX12_tellLaw zl_RX12_306 ziX12_tellLaw zvX12_tellLaw (by decide) (ly_a420 hL) rfl (Nat.le_of_ble_eq_true rfl) (Nat.le_of_ble_eq_true rfl) hc ?_
      refine ex_step (pc' := 278) dX12_tell0_141 rfl ?_
      rw [h]; exact ex_ret (v := none) ⟨dX12_tell0_278, rfl⟩
    | 3, hk, ho, hx =>
      cases ho
      refine ⟨144, by decide, ?_⟩
      have h := h.2.2.2.1 (Int32.toInt_inj.mp (hx.trans (by decide)))
      refine ex_step (pc' := 145) dX12_tell0_144 rfl ?_
      obtain ⟨I17, hc, h⟩ := h
      refine ex_callV (as := []) (st := []) (ci := 12) dX12_tell0_145 zmX12_goesOn zl_RX12_249 ziX12_goesOn zvX12_goesOn (by decide) (ly_a420 hL) rfl (Nat.le_of_ble_eq_true rfl) (Nat.le_of_ble_eq_true rfl) hc ?_
      refine ex_step (pc' := 149) dX12_tell0_148 rfl ?_
      refine ex_step (pc' := 151) (st' := [.int 7, .ref 420]) dX12_tell0_149 rfl ?_
      obtain ⟨I18, hc, h⟩ := h
      refine ex_callV (as := [.int 7]) (st := []) (ci := 12) dX12_tell0_151 zmX12_tellLaw zl_RX12_306 ziX12_tellLaw zvX12_tellLaw (by decide) (ly_a420 hL) rfl (Nat.le_of_ble_eq_true rfl) (Nat.le_of_ble_eq_true rfl) hc ?_
      refine ex_step (pc' := 278) dX12_tell0_154 rfl ?_
      rw [h]; exact ex_ret (v := none) ⟨dX12_tell0_278, rfl⟩
    | 4, hk, ho, hx =>
      cases ho
      refine ⟨157, by decide, ?_⟩
      have h := h.2.2.2.2.1 (Int32.toInt_inj.mp (hx.trans (by decide)))
      refine ex_step (pc' := 158) dX12_tell0_157 rfl ?_
      obtain ⟨I19, hc, h⟩ := h
      refine ex_callV (as := []) (st := []) (ci := 12) dX12_tell0_158 zmX12_tellErrand zl_RX12_309 ziX12_tellErrand zvX12_tellErrand (by decide) (ly_a420 hL) rfl (Nat.le_of_ble_eq_true rfl) (Nat.le_of_ble_eq_true rfl) hc ?_
      refine ex_step (pc' := 278) dX12_tell0_161 rfl ?_
      rw [h]; exact ex_ret (v := none) ⟨dX12_tell0_278, rfl⟩
    | 5, hk, ho, hx =>
      cases ho
      refine ⟨164, by decide, ?_⟩
      have h := h.2.2.2.2.2.1 (Int32.toInt_inj.mp (hx.trans (by decide)))
      refine ex_step (pc' := 165) dX12_tell0_164 rfl ?_
      refine ex_step (pc' := 166) dX12_tell0_165 rfl ?_
      refine ex_getr dX12_tell0_166 wf_RX12_70 (ly_a420 hL) rfl (ly_r420_31 hL) ?_
      refine ex_step (pc' := 170) dX12_tell0_169 rfl ?_
      refine ex_geti dX12_tell0_170 wf_RX12_261 (ly_a420 hL) rfl ?_
      obtain ⟨hv, h⟩ := h
      refine ex_iald dX12_tell0_173 (Or.inl (ly_a438 hL)) hv ?_
      refine ex_step (pc' := 176) (st' := [.int 6, .int (I 438 (I 420 19).toNatClampNeg), .ref 420]) dX12_tell0_174 rfl ?_
      obtain ⟨I20, hc, h⟩ := h
      refine ex_callV (as := [.int (I 438 (I 420 19).toNatClampNeg), .int 6]) (st := []) (ci := 12) dX12_tell0_176 zmX12_roomFor zl_RX12_296 ziX12_roomFor zvX12_roomFor (by decide) (ly_a420 hL) rfl (Nat.le_of_ble_eq_true rfl) (Nat.le_of_ble_eq_true rfl) hc ?_
      refine ex_step (pc' := 180) dX12_tell0_179 rfl ?_
      refine ex_geti dX12_tell0_180 wf_RX12_228 (ly_a420 hL) rfl ?_
      refine ex_if (pc' := 278) dX12_tell0_183 (by decide) (fun c => ?_) (fun c => ?_)
      · have h := h.1 c
        rw [h]; exact ex_ret (v := none) ⟨dX12_tell0_278, rfl⟩
      · have h := h.2 (Classical.not_not.mp c)
        refine ex_step (pc' := 187) dX12_tell0_186 rfl ?_
        obtain ⟨I21, hc, h⟩ := h
        refine ex_callV (as := []) (st := []) (ci := 12) dX12_tell0_187 zmX12_tellPillar zl_RX12_312 ziX12_tellPillar zvX12_tellPillar (by decide) (ly_a420 hL) rfl (Nat.le_of_ble_eq_true rfl) (Nat.le_of_ble_eq_true rfl) hc ?_
        refine ex_step (pc' := 278) dX12_tell0_190 rfl ?_
        rw [h]; exact ex_ret (v := none) ⟨dX12_tell0_278, rfl⟩
    | 6, hk, ho, hx =>
      cases ho
      refine ⟨193, by decide, ?_⟩
      have h := h.2.2.2.2.2.2.1 (Int32.toInt_inj.mp (hx.trans (by decide)))
      refine ex_step (pc' := 194) dX12_tell0_193 rfl ?_
      obtain ⟨I22, hc, h⟩ := h
      refine ex_callV (as := []) (st := []) (ci := 12) dX12_tell0_194 zmX12_goesOn zl_RX12_249 ziX12_goesOn zvX12_goesOn (by decide) (ly_a420 hL) rfl (Nat.le_of_ble_eq_true rfl) (Nat.le_of_ble_eq_true rfl) hc ?_
      refine ex_step (pc' := 198) dX12_tell0_197 rfl ?_
      obtain ⟨v23, I24, hc, h⟩ := h
      refine ex_callV (as := []) (st := []) (ci := 12) dX12_tell0_198 zmX12_known zl_RX12_302 ziX12_known zvX12_known (by decide) (ly_a420 hL) rfl (Nat.le_of_ble_eq_true rfl) (Nat.le_of_ble_eq_true rfl) hc ?_
      refine ex_step (pc' := 202) (ls' := [some (.ref 420), some (.int v23), none]) dX12_tell0_201 rfl ?_
      refine ex_step (pc' := 203) dX12_tell0_202 rfl ?_
      refine ex_step (pc' := 204) (st' := [.int 0, .ref 420]) dX12_tell0_203 rfl ?_
      refine ex_step (pc' := 206) (st' := [.int 9, .int 0, .ref 420]) dX12_tell0_204 rfl ?_
      obtain ⟨v25, I26, hc, h⟩ := h
      refine ex_callV (as := [.int 0, .int 9]) (st := []) (ci := 12) dX12_tell0_206 zmX12_bounded zl_RX12_289 ziX12_bounded zvX12_bounded (by decide) (ly_a420 hL) rfl (Nat.le_of_ble_eq_true rfl) (Nat.le_of_ble_eq_true rfl) hc ?_
      refine ex_step (pc' := 210) (ls' := [some (.ref 420), some (.int v23), some (.int v25)]) dX12_tell0_209 rfl ?_
      refine ex_step (pc' := 211) dX12_tell0_210 rfl ?_
      refine ex_step (pc' := 212) (st' := [.int 4, .ref 420]) dX12_tell0_211 rfl ?_
      obtain ⟨I27, hc, h⟩ := h
      refine ex_callV (as := [.int 4]) (st := []) (ci := 12) dX12_tell0_212 zmX12_must zl_RX12_293 ziX12_must zvX12_must (by decide) (ly_a420 hL) rfl (Nat.le_of_ble_eq_true rfl) (Nat.le_of_ble_eq_true rfl) hc ?_
      refine ex_step (pc' := 216) dX12_tell0_215 rfl ?_
      refine ex_geti dX12_tell0_216 wf_RX12_228 (ly_a420 hL) rfl ?_
      refine ex_if (pc' := 278) dX12_tell0_219 (by decide) (fun c => ?_) (fun c => ?_)
      · have h := h.1 c
        rw [h]; exact ex_ret (v := none) ⟨dX12_tell0_278, rfl⟩
      · have h := h.2 (Classical.not_not.mp c)
        refine ex_step (pc' := 223) dX12_tell0_222 rfl ?_
        refine ex_if (pc' := 278) dX12_tell0_223 (by decide) (fun c => ?_) (fun c => ?_)
        · have h := h.1 c
          rw [h]; exact ex_ret (v := none) ⟨dX12_tell0_278, rfl⟩
        · have h := h.2 c
          refine ex_step (pc' := 227) dX12_tell0_226 rfl ?_
          refine ex_getr dX12_tell0_227 wf_RX12_58 (ly_a420 hL) rfl (ly_r420_27 hL) ?_
          refine ex_step (pc' := 232) (st' := [.int 7, .ref 434]) dX12_tell0_230 rfl ?_
          refine ex_step (pc' := 233) dX12_tell0_232 rfl ?_
          refine ex_geti dX12_tell0_233 wf_RX12_261 (ly_a420 hL) rfl ?_
          refine ex_step (pc' := 237) dX12_tell0_236 rfl ?_
          refine ex_step (pc' := 238) dX12_tell0_237 rfl ?_
          refine ex_step (pc' := 239) dX12_tell0_238 rfl ?_
          refine ex_step (pc' := 240) dX12_tell0_239 rfl ?_
          obtain ⟨hv, h⟩ := h
          refine ex_iastN dX12_tell0_240 (ly_a434 hL) hv (fun I28 eI28 => ?_)
          have h := h I28 eI28
          refine ex_step (pc' := 278) dX12_tell0_241 rfl ?_
          rw [h]; exact ex_ret (v := none) ⟨dX12_tell0_278, rfl⟩
    | 7, hk, ho, hx =>
      cases ho
      refine ⟨244, by decide, ?_⟩
      have h := h.2.2.2.2.2.2.2 (Int32.toInt_inj.mp (hx.trans (by decide)))
      refine ex_step (pc' := 245) dX12_tell0_244 rfl ?_
      obtain ⟨I29, hc, h⟩ := h
      refine ex_callV (as := []) (st := []) (ci := 12) dX12_tell0_245 zmX12_goesOn zl_RX12_249 ziX12_goesOn zvX12_goesOn (by decide) (ly_a420 hL) rfl (Nat.le_of_ble_eq_true rfl) (Nat.le_of_ble_eq_true rfl) hc ?_
      refine ex_step (pc' := 249) dX12_tell0_248 rfl ?_
      refine ex_getr dX12_tell0_249 wf_RX12_79 (ly_a420 hL) rfl (ly_r420_34 hL) ?_
      refine ex_step (pc' := 253) dX12_tell0_252 rfl ?_
      refine ex_geti dX12_tell0_253 wf_RX12_261 (ly_a420 hL) rfl ?_
      refine ex_step (pc' := 257) dX12_tell0_256 rfl ?_
      refine ex_step (pc' := 258) (st' := [.int 0, .ref 420, .int (I29 420 19), .ref 441]) dX12_tell0_257 rfl ?_
      refine ex_step (pc' := 261) (st' := [.int 9999, .int 0, .ref 420, .int (I29 420 19), .ref 441]) dX12_tell0_258 rfl ?_
      obtain ⟨v30, I31, hc, h⟩ := h
      refine ex_callV (as := [.int 0, .int 9999]) (st := [.int (I29 420 19), .ref 441]) (ci := 12) dX12_tell0_261 zmX12_bounded zl_RX12_289 ziX12_bounded zvX12_bounded (by decide) (ly_a420 hL) rfl (Nat.le_of_ble_eq_true rfl) (Nat.le_of_ble_eq_true rfl) hc ?_
      obtain ⟨hv, h⟩ := h
      refine ex_iastN dX12_tell0_264 (ly_a441 hL) hv (fun I32 eI32 => ?_)
      have h := h I32 eI32
      refine ex_step (pc' := 266) dX12_tell0_265 rfl ?_
      refine ex_step (pc' := 267) (st' := [.int 4, .ref 420]) dX12_tell0_266 rfl ?_
      obtain ⟨I33, hc, h⟩ := h
      refine ex_callV (as := [.int 4]) (st := []) (ci := 12) dX12_tell0_267 zmX12_must zl_RX12_293 ziX12_must zvX12_must (by decide) (ly_a420 hL) rfl (Nat.le_of_ble_eq_true rfl) (Nat.le_of_ble_eq_true rfl) hc ?_
      refine ex_step (pc' := 278) dX12_tell0_270 rfl ?_
      rw [h]; exact ex_ret (v := none) ⟨dX12_tell0_278, rfl⟩
    | (k + 8), hk, ho, hx => exact absurd hk (by simp)
set_option maxHeartbeats 4000000 in
theorem BX12_manAt_0 {d : Nat} {Z : zZ} {I : zI} {J : zJ} {o : zO} {t u : Nat} (x1 : Int32) (hL : zLY Z t u)  (h : (vp_in x1 403 ∧ ((¬ (I 423 x1.toNatClampNeg) = 1 → o = (some (.int (-1)), Z, I, J)) ∧ ((I 423 x1.toNatClampNeg) = 1 → zE d kX12_manAt 12 [some (.ref 420), some (.int x1), some (.int 0)] [] Z I J o)))) : zE d kX12_manAt 0 [some (.ref 420), some (.int x1), none] [] Z I J o := by
  refine ex_step (pc' := 1) dX12_manAt_0 rfl ?_
  refine ex_getr dX12_manAt_1 wf_RX12_20 (ly_a420 hL) rfl (ly_r420_5 hL) ?_
  refine ex_step (pc' := 5) dX12_manAt_4 rfl ?_
  obtain ⟨hv, h⟩ := h
  refine ex_iald dX12_manAt_5 (Or.inl (ly_a423 hL)) hv ?_
  refine ex_step (pc' := 7) (st' := [.int 1, .int (I 423 x1.toNatClampNeg)]) dX12_manAt_6 rfl ?_
  refine ex_icmp (pc' := 44) dX12_manAt_7 (by decide) (fun c => ?_) (fun c => ?_)
  · have h := h.1 c
    refine ex_step (pc' := 45) (st' := [.int (-1)]) dX12_manAt_44 rfl ?_
    rw [h]; exact ex_ret (v := some (.int (-1))) ⟨dX12_manAt_45, _, rfl, rfl⟩
  · have h := h.2 (Classical.not_not.mp c)
    refine ex_step (pc' := 11) (st' := [.int 0]) dX12_manAt_10 rfl ?_
    refine ex_step (pc' := 12) (ls' := [some (.ref 420), some (.int x1), some (.int 0)]) dX12_manAt_11 rfl ?_
    exact h
set_option maxHeartbeats 4000000 in
theorem BX12_manAt_12 {d : Nat} {Z : zZ} {I : zI} {J : zJ} {o : zO} {t u : Nat} (x1 : Int32) (x2 : Int32) (hL : zLY Z t u)  (h : (((I 420 20) ≤ x2 → o = (some (.int (-1)), Z, I, J)) ∧ (¬ (I 420 20) ≤ x2 → (vp_in x2 7 ∧ (vp_in x1 403 ∧ ((¬ (lg_cmp (J 428 x2.toNatClampNeg) (J 426 x1.toNatClampNeg)) = 0 → zE d kX12_manAt 12 [some (.ref 420), some (.int x1), some (.int (x2 + 1))] [] Z I J o) ∧ ((lg_cmp (J 428 x2.toNatClampNeg) (J 426 x1.toNatClampNeg)) = 0 → o = (some (.int x2), Z, I, J)))))))) : zE d kX12_manAt 12 [some (.ref 420), some (.int x1), some (.int x2)] [] Z I J o := by
  refine ex_step (pc' := 13) dX12_manAt_12 rfl ?_
  refine ex_step (pc' := 14) dX12_manAt_13 rfl ?_
  refine ex_geti dX12_manAt_14 wf_RX12_264 (ly_a420 hL) rfl ?_
  refine ex_icmp (pc' := 44) dX12_manAt_17 (by decide) (fun c => ?_) (fun c => ?_)
  · have h := h.1 c
    refine ex_step (pc' := 45) (st' := [.int (-1)]) dX12_manAt_44 rfl ?_
    rw [h]; exact ex_ret (v := some (.int (-1))) ⟨dX12_manAt_45, _, rfl, rfl⟩
  · have h := h.2 c
    refine ex_step (pc' := 21) dX12_manAt_20 rfl ?_
    refine ex_getr dX12_manAt_21 wf_RX12_40 (ly_a420 hL) rfl (ly_r420_21 hL) ?_
    refine ex_step (pc' := 25) dX12_manAt_24 rfl ?_
    obtain ⟨hv, h⟩ := h
    refine ex_lald dX12_manAt_25 (ly_a428 hL) hv ?_
    refine ex_step (pc' := 27) dX12_manAt_26 rfl ?_
    refine ex_getr dX12_manAt_27 wf_RX12_30 (ly_a420 hL) rfl (ly_r420_8 hL) ?_
    refine ex_step (pc' := 31) dX12_manAt_30 rfl ?_
    obtain ⟨hv, h⟩ := h
    refine ex_lald dX12_manAt_31 (ly_a426 hL) hv ?_
    refine ex_step (pc' := 33) dX12_manAt_32 rfl ?_
    refine ex_if (pc' := 38) dX12_manAt_33 (by decide) (fun c => ?_) (fun c => ?_)
    · have h := h.1 c
      refine ex_step (pc' := 41) (ls' := [some (.ref 420), some (.int x1), some (.int (x2 + 1))]) dX12_manAt_38 rfl ?_
      refine ex_step (pc' := 12) dX12_manAt_41 rfl ?_
      exact h
    · have h := h.2 (Classical.not_not.mp c)
      refine ex_step (pc' := 37) dX12_manAt_36 rfl ?_
      rw [h]; exact ex_ret (v := some (.int x2)) ⟨dX12_manAt_37, _, rfl, rfl⟩
set_option maxHeartbeats 4000000 in
theorem BX12_known_0 {d : Nat} {Z : zZ} {I : zI} {J : zJ} {o : zO} {t u : Nat}  (hL : zLY Z t u)  (h : (∃ (I1 : zI), zE (d + 2) kX12_must 0 [some (.ref 420), some (.int 1)] [] Z I J (none, Z, I1, J) ∧ (((I1 420 13) ≤ 0 → (∃ (v2 : Int32), zE (d + 2) kX12_manAt 0 [some (.ref 420), some (.int (I 420 11)), none] [] Z I1 J (some (.int v2), Z, I1, J) ∧ ((0 ≤ v2 → o = (some (.int v2), Z, I1, J)) ∧ (¬ 0 ≤ v2 → (∃ (I3 : zI), zE (d + 2) kX12_wrong 0 [some (.ref 420), some (.int 4), some (.int (I 420 11)), none] [] Z I1 J (none, Z, I3, J) ∧ o = (some (.int v2), Z, I3, J)))))) ∧ (¬ (I1 420 13) ≤ 0 → o = (some (.int (-1)), Z, I1, J))))) : zE (d + 3) kX12_known 0 [some (.ref 420), none, none] [] Z I J o := by
  refine ex_step (pc' := 1) dX12_known_0 rfl ?_
  refine ex_geti dX12_known_1 wf_RX12_231 (ly_a420 hL) rfl ?_
  refine ex_step (pc' := 5) (ls' := [some (.ref 420), some (.int (I 420 11)), none]) dX12_known_4 rfl ?_
  refine ex_step (pc' := 6) dX12_known_5 rfl ?_
  refine ex_step (pc' := 7) (st' := [.int 1, .ref 420]) dX12_known_6 rfl ?_
  obtain ⟨I1, hc, h⟩ := h
  refine ex_callV (as := [.int 1]) (st := []) (ci := 12) dX12_known_7 zmX12_must zl_RX12_293 ziX12_must zvX12_must (by decide) (ly_a420 hL) rfl (Nat.le_of_ble_eq_true rfl) (Nat.le_of_ble_eq_true rfl) hc ?_
  refine ex_step (pc' := 11) dX12_known_10 rfl ?_
  refine ex_geti dX12_known_11 wf_RX12_228 (ly_a420 hL) rfl ?_
  refine ex_if (pc' := 19) dX12_known_14 (by decide) (fun c => ?_) (fun c => ?_)
  · have h := h.1 c
    refine ex_step (pc' := 20) dX12_known_19 rfl ?_
    refine ex_step (pc' := 21) dX12_known_20 rfl ?_
    obtain ⟨v2, hc, h⟩ := h
    refine ex_callV (as := [.int (I 420 11)]) (st := []) (ci := 12) dX12_known_21 zmX12_manAt zl_RX12_315 ziX12_manAt zvX12_manAt (by decide) (ly_a420 hL) rfl (Nat.le_of_ble_eq_true rfl) (Nat.le_of_ble_eq_true rfl) hc ?_
    refine ex_step (pc' := 25) (ls' := [some (.ref 420), some (.int (I 420 11)), some (.int v2)]) dX12_known_24 rfl ?_
    refine ex_step (pc' := 26) dX12_known_25 rfl ?_
    refine ex_if (pc' := 35) dX12_known_26 (by decide) (fun c => ?_) (fun c => ?_)
    · have h := h.1 c
      refine ex_step (pc' := 36) dX12_known_35 rfl ?_
      rw [h]; exact ex_ret (v := some (.int v2)) ⟨dX12_known_36, _, rfl, rfl⟩
    · have h := h.2 c
      refine ex_step (pc' := 30) dX12_known_29 rfl ?_
      refine ex_step (pc' := 31) (st' := [.int 4, .ref 420]) dX12_known_30 rfl ?_
      refine ex_step (pc' := 32) dX12_known_31 rfl ?_
      obtain ⟨I3, hc, h⟩ := h
      refine ex_callV (as := [.int 4, .int (I 420 11)]) (st := []) (ci := 12) dX12_known_32 zmX12_wrong zl_RX12_279 ziX12_wrong zvX12_wrong (by decide) (ly_a420 hL) rfl (Nat.le_of_ble_eq_true rfl) (Nat.le_of_ble_eq_true rfl) hc ?_
      refine ex_step (pc' := 36) dX12_known_35 rfl ?_
      rw [h]; exact ex_ret (v := some (.int v2)) ⟨dX12_known_36, _, rfl, rfl⟩
  · have h := h.2 c
    refine ex_step (pc' := 18) (st' := [.int (-1)]) dX12_known_17 rfl ?_
    rw [h]; exact ex_ret (v := some (.int (-1))) ⟨dX12_known_18, _, rfl, rfl⟩
set_option maxHeartbeats 4000000 in
theorem BX12_bounded_0 {d : Nat} {Z : zZ} {I : zI} {J : zJ} {o : zO} {t u : Nat} (x1 : Int32) (x2 : Int32) (hL : zLY Z t u)  (h : ((0 < (I 420 13) → (∃ (I1 : zI), zE (d + 1) kX12_fail 0 [some (.ref 420), some (.int 1)] [] Z I J (none, Z, I1, J) ∧ o = (some (.int x1), Z, I1, J))) ∧ (¬ 0 < (I 420 13) → (∃ (v2 : Int32), zE (d + 1) kX12_is 0 [some (.ref 420), some (.int 2)] [] Z I J (some (.int v2), Z, I, J) ∧ ((¬ v2 = 0 → (vp_in (I 420 11) 403 ∧ (∀ y3 : Int32, y3 = (I 425 (I 420 11).toNatClampNeg) → ((y3 < x1 → (∃ (I4 : zI), zE (d + 1) kX12_wrong 0 [some (.ref 420), some (.int 5), some (.int (I 420 11)), none] [] Z I J (none, Z, I4, J) ∧ (∃ (I5 : zI), zE (d + 1) kX12_goesOn 0 [some (.ref 420)] [] Z I4 J (none, Z, I5, J) ∧ o = (some (.int y3), Z, I5, J)))) ∧ (¬ y3 < x1 → ((y3 ≤ x2 → (∃ (I6 : zI), zE (d + 1) kX12_goesOn 0 [some (.ref 420)] [] Z I J (none, Z, I6, J) ∧ o = (some (.int y3), Z, I6, J))) ∧ (¬ y3 ≤ x2 → (∃ (I7 : zI), zE (d + 1) kX12_wrong 0 [some (.ref 420), some (.int 5), some (.int (I 420 11)), none] [] Z I J (none, Z, I7, J) ∧ (∃ (I8 : zI), zE (d + 1) kX12_goesOn 0 [some (.ref 420)] [] Z I7 J (none, Z, I8, J) ∧ o = (some (.int y3), Z, I8, J)))))))))) ∧ (v2 = 0 → (∃ (I9 : zI), zE (d + 1) kX12_fail 0 [some (.ref 420), some (.int 1)] [] Z I J (none, Z, I9, J) ∧ o = (some (.int x1), Z, I9, J)))))))) : zE (d + 2) kX12_bounded 0 [some (.ref 420), some (.int x1), some (.int x2), none] [] Z I J o := by
  refine ex_step (pc' := 1) dX12_bounded_0 rfl ?_
  refine ex_geti dX12_bounded_1 wf_RX12_228 (ly_a420 hL) rfl ?_
  refine ex_if (pc' := 15) dX12_bounded_4 (by decide) (fun c => ?_) (fun c => ?_)
  · have h := h.1 c
    refine ex_step (pc' := 16) dX12_bounded_15 rfl ?_
    refine ex_step (pc' := 17) (st' := [.int 1, .ref 420]) dX12_bounded_16 rfl ?_
    obtain ⟨I1, hc, h⟩ := h
    refine ex_callV (as := [.int 1]) (st := []) (ci := 12) dX12_bounded_17 zmX12_fail zl_RX12_243 ziX12_fail zvX12_fail (by decide) (ly_a420 hL) rfl (Nat.le_of_ble_eq_true rfl) (Nat.le_of_ble_eq_true rfl) hc ?_
    refine ex_step (pc' := 21) dX12_bounded_20 rfl ?_
    rw [h]; exact ex_ret (v := some (.int x1)) ⟨dX12_bounded_21, _, rfl, rfl⟩
  · have h := h.2 c
    refine ex_step (pc' := 8) dX12_bounded_7 rfl ?_
    refine ex_step (pc' := 9) (st' := [.int 2, .ref 420]) dX12_bounded_8 rfl ?_
    obtain ⟨v2, hc, h⟩ := h
    refine ex_callV (as := [.int 2]) (st := []) (ci := 12) dX12_bounded_9 zmX12_is zl_RX12_246 ziX12_is zvX12_is (by decide) (ly_a420 hL) rfl (Nat.le_of_ble_eq_true rfl) (Nat.le_of_ble_eq_true rfl) hc ?_
    refine ex_if (pc' := 22) dX12_bounded_12 (by decide) (fun c => ?_) (fun c => ?_)
    · have h := h.1 c
      refine ex_step (pc' := 23) dX12_bounded_22 rfl ?_
      refine ex_getr dX12_bounded_23 wf_RX12_27 (ly_a420 hL) rfl (ly_r420_7 hL) ?_
      refine ex_step (pc' := 27) dX12_bounded_26 rfl ?_
      refine ex_geti dX12_bounded_27 wf_RX12_231 (ly_a420 hL) rfl ?_
      obtain ⟨hv, h⟩ := h
      refine ex_iald dX12_bounded_30 (Or.inl (ly_a425 hL)) hv ?_
      refine ex_topi (fun y3 ey3 => ?_)
      have h := h y3 ey3
      refine ex_step (pc' := 32) (ls' := [some (.ref 420), some (.int x1), some (.int x2), some (.int y3)]) dX12_bounded_31 rfl ?_
      refine ex_step (pc' := 33) dX12_bounded_32 rfl ?_
      refine ex_step (pc' := 34) dX12_bounded_33 rfl ?_
      refine ex_icmp (pc' := 42) dX12_bounded_34 (by decide) (fun c => ?_) (fun c => ?_)
      · have h := h.1 c
        refine ex_step (pc' := 43) dX12_bounded_42 rfl ?_
        refine ex_step (pc' := 44) (st' := [.int 5, .ref 420]) dX12_bounded_43 rfl ?_
        refine ex_step (pc' := 45) dX12_bounded_44 rfl ?_
        refine ex_geti dX12_bounded_45 wf_RX12_231 (ly_a420 hL) rfl ?_
        obtain ⟨I4, hc, h⟩ := h
        refine ex_callV (as := [.int 5, .int (I 420 11)]) (st := []) (ci := 12) dX12_bounded_48 zmX12_wrong zl_RX12_279 ziX12_wrong zvX12_wrong (by decide) (ly_a420 hL) rfl (Nat.le_of_ble_eq_true rfl) (Nat.le_of_ble_eq_true rfl) hc ?_
        refine ex_step (pc' := 52) dX12_bounded_51 rfl ?_
        obtain ⟨I5, hc, h⟩ := h
        refine ex_callV (as := []) (st := []) (ci := 12) dX12_bounded_52 zmX12_goesOn zl_RX12_249 ziX12_goesOn zvX12_goesOn (by decide) (ly_a420 hL) rfl (Nat.le_of_ble_eq_true rfl) (Nat.le_of_ble_eq_true rfl) hc ?_
        refine ex_step (pc' := 56) dX12_bounded_55 rfl ?_
        rw [h]; exact ex_ret (v := some (.int y3)) ⟨dX12_bounded_56, _, rfl, rfl⟩
      · have h := h.2 c
        refine ex_step (pc' := 38) dX12_bounded_37 rfl ?_
        refine ex_step (pc' := 39) dX12_bounded_38 rfl ?_
        refine ex_icmp (pc' := 51) dX12_bounded_39 (by decide) (fun c => ?_) (fun c => ?_)
        · have h := h.1 c
          refine ex_step (pc' := 52) dX12_bounded_51 rfl ?_
          obtain ⟨I6, hc, h⟩ := h
          refine ex_callV (as := []) (st := []) (ci := 12) dX12_bounded_52 zmX12_goesOn zl_RX12_249 ziX12_goesOn zvX12_goesOn (by decide) (ly_a420 hL) rfl (Nat.le_of_ble_eq_true rfl) (Nat.le_of_ble_eq_true rfl) hc ?_
          refine ex_step (pc' := 56) dX12_bounded_55 rfl ?_
          rw [h]; exact ex_ret (v := some (.int y3)) ⟨dX12_bounded_56, _, rfl, rfl⟩
        · have h := h.2 c
          refine ex_step (pc' := 43) dX12_bounded_42 rfl ?_
          refine ex_step (pc' := 44) (st' := [.int 5, .ref 420]) dX12_bounded_43 rfl ?_
          refine ex_step (pc' := 45) dX12_bounded_44 rfl ?_
          refine ex_geti dX12_bounded_45 wf_RX12_231 (ly_a420 hL) rfl ?_
          obtain ⟨I7, hc, h⟩ := h
          refine ex_callV (as := [.int 5, .int (I 420 11)]) (st := []) (ci := 12) dX12_bounded_48 zmX12_wrong zl_RX12_279 ziX12_wrong zvX12_wrong (by decide) (ly_a420 hL) rfl (Nat.le_of_ble_eq_true rfl) (Nat.le_of_ble_eq_true rfl) hc ?_
          refine ex_step (pc' := 52) dX12_bounded_51 rfl ?_
          obtain ⟨I8, hc, h⟩ := h
          refine ex_callV (as := []) (st := []) (ci := 12) dX12_bounded_52 zmX12_goesOn zl_RX12_249 ziX12_goesOn zvX12_goesOn (by decide) (ly_a420 hL) rfl (Nat.le_of_ble_eq_true rfl) (Nat.le_of_ble_eq_true rfl) hc ?_
          refine ex_step (pc' := 56) dX12_bounded_55 rfl ?_
          rw [h]; exact ex_ret (v := some (.int y3)) ⟨dX12_bounded_56, _, rfl, rfl⟩
    · have h := h.2 (Classical.not_not.mp c)
      refine ex_step (pc' := 16) dX12_bounded_15 rfl ?_
      refine ex_step (pc' := 17) (st' := [.int 1, .ref 420]) dX12_bounded_16 rfl ?_
      obtain ⟨I9, hc, h⟩ := h
      refine ex_callV (as := [.int 1]) (st := []) (ci := 12) dX12_bounded_17 zmX12_fail zl_RX12_243 ziX12_fail zvX12_fail (by decide) (ly_a420 hL) rfl (Nat.le_of_ble_eq_true rfl) (Nat.le_of_ble_eq_true rfl) hc ?_
      refine ex_step (pc' := 21) dX12_bounded_20 rfl ?_
      rw [h]; exact ex_ret (v := some (.int x1)) ⟨dX12_bounded_21, _, rfl, rfl⟩
set_option maxHeartbeats 4000000 in
theorem BX12_notesCorner_0 {d : Nat} {Z : zZ} {I : zI} {J : zJ} {o : zO} {t u : Nat} (x1 : Int32) (x2 : Int32) (x3 : Int32) (hL : zLY Z t u)  (h : (vp_in (I 420 35) 49 ∧ (∀ I1 : zI, I1 = zu I 442 (I 420 35).toNatClampNeg x2 → (vp_in (I1 420 35) 49 ∧ (∀ I2 : zI, I2 = zu I1 443 (I1 420 35).toNatClampNeg x3 → (vp_in (I2 420 35) 49 ∧ (∀ I3 : zI, I3 = zu I2 444 (I2 420 35).toNatClampNeg x1 → (∀ I4 : zI, I4 = zu I3 420 35 ((I3 420 35) + 1) → o = (none, Z, I4, J))))))))) : zE d kX12_notesCorner 0 [some (.ref 420), some (.int x1), some (.int x2), some (.int x3)] [] Z I J o := by
  refine ex_step (pc' := 1) dX12_notesCorner_0 rfl ?_
  refine ex_getr dX12_notesCorner_1 wf_RX12_82 (ly_a420 hL) rfl (ly_r420_36 hL) ?_
  refine ex_step (pc' := 5) dX12_notesCorner_4 rfl ?_
  refine ex_geti dX12_notesCorner_5 wf_RX12_267 (ly_a420 hL) rfl ?_
  refine ex_step (pc' := 9) dX12_notesCorner_8 rfl ?_
  obtain ⟨hv, h⟩ := h
  refine ex_iastN dX12_notesCorner_9 (ly_a442 hL) hv (fun I1 eI1 => ?_)
  have h := h I1 eI1
  refine ex_step (pc' := 11) dX12_notesCorner_10 rfl ?_
  refine ex_getr dX12_notesCorner_11 wf_RX12_85 (ly_a420 hL) rfl (ly_r420_37 hL) ?_
  refine ex_step (pc' := 15) dX12_notesCorner_14 rfl ?_
  refine ex_geti dX12_notesCorner_15 wf_RX12_267 (ly_a420 hL) rfl ?_
  refine ex_step (pc' := 19) dX12_notesCorner_18 rfl ?_
  obtain ⟨hv, h⟩ := h
  refine ex_iastN dX12_notesCorner_19 (ly_a443 hL) hv (fun I2 eI2 => ?_)
  have h := h I2 eI2
  refine ex_step (pc' := 21) dX12_notesCorner_20 rfl ?_
  refine ex_getr dX12_notesCorner_21 wf_RX12_88 (ly_a420 hL) rfl (ly_r420_38 hL) ?_
  refine ex_step (pc' := 25) dX12_notesCorner_24 rfl ?_
  refine ex_geti dX12_notesCorner_25 wf_RX12_267 (ly_a420 hL) rfl ?_
  refine ex_step (pc' := 29) dX12_notesCorner_28 rfl ?_
  obtain ⟨hv, h⟩ := h
  refine ex_iastN dX12_notesCorner_29 (ly_a444 hL) hv (fun I3 eI3 => ?_)
  have h := h I3 eI3
  refine ex_step (pc' := 31) dX12_notesCorner_30 rfl ?_
  refine ex_step (pc' := 32) dX12_notesCorner_31 rfl ?_
  refine ex_geti dX12_notesCorner_32 wf_RX12_267 (ly_a420 hL) rfl ?_
  refine ex_step (pc' := 36) (st' := [.int 1, .int (I3 420 35), .ref 420]) dX12_notesCorner_35 rfl ?_
  refine ex_step (pc' := 37) dX12_notesCorner_36 rfl ?_
  refine ex_putiN dX12_notesCorner_37 (wp_RX12_267 _) (ly_a420 hL) rfl ⟨rfl, rfl⟩ (fun I4 eI4 => ?_)
  have h := h I4 eI4
  rw [h]; exact ex_ret (v := none) ⟨dX12_notesCorner_40, rfl⟩
set_option maxHeartbeats 4000000 in
theorem BX12_tellMan_0 {d : Nat} {Z : zZ} {I : zI} {J : zJ} {o : zO} {t u : Nat}  (hL : zLY Z t u)  (h : (vp_in (I 420 19) 2 ∧ (∀ y1 : Int32, y1 = (((7 : Int32) * (I 420 19)) + (I 431 (I 420 19).toNatClampNeg)) → (∃ (I2 : zI), zE (d + 2) kX12_must 0 [some (.ref 420), some (.int 1)] [] Z I J (none, Z, I2, J) ∧ ((¬ (I2 420 13) = 0 → zE (d + 3) kX12_tellMan 49 [some (.ref 420), some (.int y1), some (.int (I 420 11)), none] [] Z I2 J o) ∧ ((I2 420 13) = 0 → (∃ (v3 : Int32), zE (d + 2) kX12_manAt 0 [some (.ref 420), some (.int (I 420 11)), none] [] Z I2 J (some (.int v3), Z, I2, J) ∧ ((v3 < 0 → zE (d + 3) kX12_tellMan 49 [some (.ref 420), some (.int y1), some (.int (I 420 11)), none] [] Z I2 J o) ∧ (¬ v3 < 0 → (∃ (I4 : zI), zE (d + 2) kX12_wrong 0 [some (.ref 420), some (.int 3), some (.int (I 420 11)), none] [] Z I2 J (none, Z, I4, J) ∧ zE (d + 3) kX12_tellMan 49 [some (.ref 420), some (.int y1), some (.int (I 420 11)), none] [] Z I4 J o)))))))))) : zE (d + 3) kX12_tellMan 0 [some (.ref 420), none, none, none] [] Z I J o := by
  refine ex_step (pc' := 2) (st' := [.int 7]) dX12_tellMan_0 rfl ?_
  refine ex_step (pc' := 3) dX12_tellMan_2 rfl ?_
  refine ex_geti dX12_tellMan_3 wf_RX12_261 (ly_a420 hL) rfl ?_
  refine ex_step (pc' := 7) dX12_tellMan_6 rfl ?_
  refine ex_step (pc' := 8) dX12_tellMan_7 rfl ?_
  refine ex_getr dX12_tellMan_8 wf_RX12_49 (ly_a420 hL) rfl (ly_r420_24 hL) ?_
  refine ex_step (pc' := 12) dX12_tellMan_11 rfl ?_
  refine ex_geti dX12_tellMan_12 wf_RX12_261 (ly_a420 hL) rfl ?_
  obtain ⟨hv, h⟩ := h
  refine ex_iald dX12_tellMan_15 (Or.inl (ly_a431 hL)) hv ?_
  refine ex_step (pc' := 17) dX12_tellMan_16 rfl ?_
  refine ex_topi (fun y1 ey1 => ?_)
  have h := h y1 ey1
  refine ex_step (pc' := 18) (ls' := [some (.ref 420), some (.int y1), none, none]) dX12_tellMan_17 rfl ?_
  refine ex_step (pc' := 19) dX12_tellMan_18 rfl ?_
  refine ex_geti dX12_tellMan_19 wf_RX12_231 (ly_a420 hL) rfl ?_
  refine ex_step (pc' := 23) (ls' := [some (.ref 420), some (.int y1), some (.int (I 420 11)), none]) dX12_tellMan_22 rfl ?_
  refine ex_step (pc' := 24) dX12_tellMan_23 rfl ?_
  refine ex_step (pc' := 25) (st' := [.int 1, .ref 420]) dX12_tellMan_24 rfl ?_
  obtain ⟨I2, hc, h⟩ := h
  refine ex_callV (as := [.int 1]) (st := []) (ci := 12) dX12_tellMan_25 zmX12_must zl_RX12_293 ziX12_must zvX12_must (by decide) (ly_a420 hL) rfl (Nat.le_of_ble_eq_true rfl) (Nat.le_of_ble_eq_true rfl) hc ?_
  refine ex_step (pc' := 29) dX12_tellMan_28 rfl ?_
  refine ex_geti dX12_tellMan_29 wf_RX12_228 (ly_a420 hL) rfl ?_
  refine ex_if (pc' := 49) dX12_tellMan_32 (by decide) (fun c => ?_) (fun c => ?_)
  · have h := h.1 c
    exact h
  · have h := h.2 (Classical.not_not.mp c)
    refine ex_step (pc' := 36) dX12_tellMan_35 rfl ?_
    refine ex_step (pc' := 37) dX12_tellMan_36 rfl ?_
    obtain ⟨v3, hc, h⟩ := h
    refine ex_callV (as := [.int (I 420 11)]) (st := []) (ci := 12) dX12_tellMan_37 zmX12_manAt zl_RX12_315 ziX12_manAt zvX12_manAt (by decide) (ly_a420 hL) rfl (Nat.le_of_ble_eq_true rfl) (Nat.le_of_ble_eq_true rfl) hc ?_
    refine ex_if (pc' := 49) dX12_tellMan_40 (by decide) (fun c => ?_) (fun c => ?_)
    · have h := h.1 c
      exact h
    · have h := h.2 c
      refine ex_step (pc' := 44) dX12_tellMan_43 rfl ?_
      refine ex_step (pc' := 45) (st' := [.int 3, .ref 420]) dX12_tellMan_44 rfl ?_
      refine ex_step (pc' := 46) dX12_tellMan_45 rfl ?_
      obtain ⟨I4, hc, h⟩ := h
      refine ex_callV (as := [.int 3, .int (I 420 11)]) (st := []) (ci := 12) dX12_tellMan_46 zmX12_wrong zl_RX12_279 ziX12_wrong zvX12_wrong (by decide) (ly_a420 hL) rfl (Nat.le_of_ble_eq_true rfl) (Nat.le_of_ble_eq_true rfl) hc ?_
      exact h
set_option maxHeartbeats 4000000 in
theorem BX12_tellMan_49 {d : Nat} {Z : zZ} {I : zI} {J : zJ} {o : zO} {t u : Nat} (x1 : Int32) (x2 : Int32) (hL : zLY Z t u)  (h : (∃ (v1 : Int32) (I2 : zI), zE (d + 2) kX12_bounded 0 [some (.ref 420), some (.int 0), some (.int 11), none] [] Z I J (some (.int v1), Z, I2, J) ∧ (vp_in x1 14 ∧ (∀ I3 : zI, I3 = zu I2 432 x1.toNatClampNeg v1 → (∃ (v4 : Int32) (I5 : zI), zE (d + 2) kX12_bounded 0 [some (.ref 420), some (.int 0), some (.int 11), none] [] Z I3 J (some (.int v4), Z, I5, J) ∧ (vp_in x1 14 ∧ (∀ I6 : zI, I6 = zu I5 433 x1.toNatClampNeg v4 → (∃ (I7 : zI), zE (d + 2) kX12_must 0 [some (.ref 420), some (.int 4)] [] Z I6 J (none, Z, I7, J) ∧ (((I7 420 13) ≤ 0 → (vp_in x1 14 ∧ (vp_in x1 14 ∧ (∃ (I8 : zI), zE (d + 2) kX12_notesCorner 0 [some (.ref 420), some (.int (I 420 11)), some (.int (I7 432 x1.toNatClampNeg)), some (.int (I7 433 x1.toNatClampNeg))] [] Z I7 J (none, Z, I8, J) ∧ (vp_in x2 403 ∧ (vp_in (I8 420 20) 7 ∧ (∀ J9 : zJ, J9 = zu J 428 (I8 420 20).toNatClampNeg (J 426 x2.toNatClampNeg) → (∀ I10 : zI, I10 = zu I8 420 20 ((I8 420 20) + 1) → (vp_in (I10 420 19) 2 ∧ (vp_in (I10 420 19) 2 ∧ (∀ I11 : zI, I11 = zu I10 431 (I10 420 19).toNatClampNeg ((I10 431 (I10 420 19).toNatClampNeg) + 1) → o = (none, Z, I11, J9)))))))))))) ∧ (¬ (I7 420 13) ≤ 0 → o = (none, Z, I7, J))))))))))) : zE (d + 3) kX12_tellMan 49 [some (.ref 420), some (.int x1), some (.int x2), none] [] Z I J o := by
  refine ex_step (pc' := 50) dX12_tellMan_49 rfl ?_
  refine ex_geti dX12_tellMan_50 wf_RX12_231 (ly_a420 hL) rfl ?_
  refine ex_step (pc' := 54) (ls' := [some (.ref 420), some (.int x1), some (.int x2), some (.int (I 420 11))]) dX12_tellMan_53 rfl ?_
  refine ex_step (pc' := 55) dX12_tellMan_54 rfl ?_
  refine ex_getr dX12_tellMan_55 wf_RX12_52 (ly_a420 hL) rfl (ly_r420_25 hL) ?_
  refine ex_step (pc' := 59) dX12_tellMan_58 rfl ?_
  refine ex_step (pc' := 60) dX12_tellMan_59 rfl ?_
  refine ex_step (pc' := 61) (st' := [.int 0, .ref 420, .int x1, .ref 432]) dX12_tellMan_60 rfl ?_
  refine ex_step (pc' := 63) (st' := [.int 11, .int 0, .ref 420, .int x1, .ref 432]) dX12_tellMan_61 rfl ?_
  obtain ⟨v1, I2, hc, h⟩ := h
  refine ex_callV (as := [.int 0, .int 11]) (st := [.int x1, .ref 432]) (ci := 12) dX12_tellMan_63 zmX12_bounded zl_RX12_289 ziX12_bounded zvX12_bounded (by decide) (ly_a420 hL) rfl (Nat.le_of_ble_eq_true rfl) (Nat.le_of_ble_eq_true rfl) hc ?_
  obtain ⟨hv, h⟩ := h
  refine ex_iastN dX12_tellMan_66 (ly_a432 hL) hv (fun I3 eI3 => ?_)
  have h := h I3 eI3
  refine ex_step (pc' := 68) dX12_tellMan_67 rfl ?_
  refine ex_getr dX12_tellMan_68 wf_RX12_55 (ly_a420 hL) rfl (ly_r420_26 hL) ?_
  refine ex_step (pc' := 72) dX12_tellMan_71 rfl ?_
  refine ex_step (pc' := 73) dX12_tellMan_72 rfl ?_
  refine ex_step (pc' := 74) (st' := [.int 0, .ref 420, .int x1, .ref 433]) dX12_tellMan_73 rfl ?_
  refine ex_step (pc' := 76) (st' := [.int 11, .int 0, .ref 420, .int x1, .ref 433]) dX12_tellMan_74 rfl ?_
  obtain ⟨v4, I5, hc, h⟩ := h
  refine ex_callV (as := [.int 0, .int 11]) (st := [.int x1, .ref 433]) (ci := 12) dX12_tellMan_76 zmX12_bounded zl_RX12_289 ziX12_bounded zvX12_bounded (by decide) (ly_a420 hL) rfl (Nat.le_of_ble_eq_true rfl) (Nat.le_of_ble_eq_true rfl) hc ?_
  obtain ⟨hv, h⟩ := h
  refine ex_iastN dX12_tellMan_79 (ly_a433 hL) hv (fun I6 eI6 => ?_)
  have h := h I6 eI6
  refine ex_step (pc' := 81) dX12_tellMan_80 rfl ?_
  refine ex_step (pc' := 82) (st' := [.int 4, .ref 420]) dX12_tellMan_81 rfl ?_
  obtain ⟨I7, hc, h⟩ := h
  refine ex_callV (as := [.int 4]) (st := []) (ci := 12) dX12_tellMan_82 zmX12_must zl_RX12_293 ziX12_must zvX12_must (by decide) (ly_a420 hL) rfl (Nat.le_of_ble_eq_true rfl) (Nat.le_of_ble_eq_true rfl) hc ?_
  refine ex_step (pc' := 86) dX12_tellMan_85 rfl ?_
  refine ex_geti dX12_tellMan_86 wf_RX12_228 (ly_a420 hL) rfl ?_
  refine ex_if (pc' := 93) dX12_tellMan_89 (by decide) (fun c => ?_) (fun c => ?_)
  · have h := h.1 c
    refine ex_step (pc' := 94) dX12_tellMan_93 rfl ?_
    refine ex_step (pc' := 95) dX12_tellMan_94 rfl ?_
    refine ex_step (pc' := 96) dX12_tellMan_95 rfl ?_
    refine ex_getr dX12_tellMan_96 wf_RX12_52 (ly_a420 hL) rfl (ly_r420_25 hL) ?_
    refine ex_step (pc' := 100) dX12_tellMan_99 rfl ?_
    obtain ⟨hv, h⟩ := h
    refine ex_iald dX12_tellMan_100 (Or.inl (ly_a432 hL)) hv ?_
    refine ex_step (pc' := 102) dX12_tellMan_101 rfl ?_
    refine ex_getr dX12_tellMan_102 wf_RX12_55 (ly_a420 hL) rfl (ly_r420_26 hL) ?_
    refine ex_step (pc' := 106) dX12_tellMan_105 rfl ?_
    obtain ⟨hv, h⟩ := h
    refine ex_iald dX12_tellMan_106 (Or.inl (ly_a433 hL)) hv ?_
    obtain ⟨I8, hc, h⟩ := h
    refine ex_callV (as := [.int (I 420 11), .int (I7 432 x1.toNatClampNeg), .int (I7 433 x1.toNatClampNeg)]) (st := []) (ci := 12) dX12_tellMan_107 zmX12_notesCorner zl_RX12_318 ziX12_notesCorner zvX12_notesCorner (by decide) (ly_a420 hL) rfl (Nat.le_of_ble_eq_true rfl) (Nat.le_of_ble_eq_true rfl) hc ?_
    refine ex_step (pc' := 111) dX12_tellMan_110 rfl ?_
    refine ex_getr dX12_tellMan_111 wf_RX12_40 (ly_a420 hL) rfl (ly_r420_21 hL) ?_
    refine ex_step (pc' := 115) dX12_tellMan_114 rfl ?_
    refine ex_geti dX12_tellMan_115 wf_RX12_264 (ly_a420 hL) rfl ?_
    refine ex_step (pc' := 119) dX12_tellMan_118 rfl ?_
    refine ex_getr dX12_tellMan_119 wf_RX12_30 (ly_a420 hL) rfl (ly_r420_8 hL) ?_
    refine ex_step (pc' := 123) dX12_tellMan_122 rfl ?_
    obtain ⟨hv, h⟩ := h
    refine ex_lald dX12_tellMan_123 (ly_a426 hL) hv ?_
    obtain ⟨hv, h⟩ := h
    refine ex_lastN dX12_tellMan_124 (ly_a428 hL) hv (fun J9 eJ9 => ?_)
    have h := h J9 eJ9
    refine ex_step (pc' := 126) dX12_tellMan_125 rfl ?_
    refine ex_step (pc' := 127) dX12_tellMan_126 rfl ?_
    refine ex_geti dX12_tellMan_127 wf_RX12_264 (ly_a420 hL) rfl ?_
    refine ex_step (pc' := 131) (st' := [.int 1, .int (I8 420 20), .ref 420]) dX12_tellMan_130 rfl ?_
    refine ex_step (pc' := 132) dX12_tellMan_131 rfl ?_
    refine ex_putiN dX12_tellMan_132 (wp_RX12_264 _) (ly_a420 hL) rfl ⟨rfl, rfl⟩ (fun I10 eI10 => ?_)
    have h := h I10 eI10
    refine ex_step (pc' := 136) dX12_tellMan_135 rfl ?_
    refine ex_getr dX12_tellMan_136 wf_RX12_49 (ly_a420 hL) rfl (ly_r420_24 hL) ?_
    refine ex_step (pc' := 140) dX12_tellMan_139 rfl ?_
    refine ex_geti dX12_tellMan_140 wf_RX12_261 (ly_a420 hL) rfl ?_
    refine ex_step (pc' := 144) dX12_tellMan_143 rfl ?_
    obtain ⟨hv, h⟩ := h
    refine ex_iald dX12_tellMan_144 (Or.inl (ly_a431 hL)) hv ?_
    refine ex_step (pc' := 146) (st' := [.int 1, .int (I10 431 (I10 420 19).toNatClampNeg), .int (I10 420 19), .ref 431]) dX12_tellMan_145 rfl ?_
    refine ex_step (pc' := 147) dX12_tellMan_146 rfl ?_
    obtain ⟨hv, h⟩ := h
    refine ex_iastN dX12_tellMan_147 (ly_a431 hL) hv (fun I11 eI11 => ?_)
    have h := h I11 eI11
    rw [h]; exact ex_ret (v := none) ⟨dX12_tellMan_148, rfl⟩
  · have h := h.2 c
    rw [h]; exact ex_ret (v := none) ⟨dX12_tellMan_92, rfl⟩
set_option maxHeartbeats 4000000 in
theorem BX12_tellErrand_0 {d : Nat} {Z : zZ} {I : zI} {J : zJ} {o : zO} {t u : Nat}  (hL : zLY Z t u)  (h : (∃ (v1 : Int32), zE (d + 3) kX12_manAt 0 [some (.ref 420), some (.int ((I 420 11) + 1)), none] [] Z I J (some (.int v1), Z, I, J) ∧ ((v1 < 0 → zE (d + 4) kX12_tellErrand 39 [some (.ref 420), some (.int v1), none, none, none, none] [] Z I J o) ∧ (¬ v1 < 0 → (vp_in (((7 : Int32) * (I 420 19)) + v1) 14 ∧ ((¬ (I 435 (((7 : Int32) * (I 420 19)) + v1).toNatClampNeg) = 6 → zE (d + 4) kX12_tellErrand 39 [some (.ref 420), some (.int v1), none, none, none, none] [] Z I J o) ∧ ((I 435 (((7 : Int32) * (I 420 19)) + v1).toNatClampNeg) = 6 → (∃ (I2 : zI), zE (d + 3) kX12_fail 0 [some (.ref 420), some (.int 2)] [] Z I J (none, Z, I2, J) ∧ zE (d + 4) kX12_tellErrand 39 [some (.ref 420), some (.int v1), none, none, none, none] [] Z I2 J o)))))))) : zE (d + 4) kX12_tellErrand 0 [some (.ref 420), none, none, none, none, none] [] Z I J o := by
  refine ex_step (pc' := 1) dX12_tellErrand_0 rfl ?_
  refine ex_step (pc' := 2) dX12_tellErrand_1 rfl ?_
  refine ex_geti dX12_tellErrand_2 wf_RX12_231 (ly_a420 hL) rfl ?_
  refine ex_step (pc' := 6) (st' := [.int 1, .int (I 420 11), .ref 420]) dX12_tellErrand_5 rfl ?_
  refine ex_step (pc' := 7) dX12_tellErrand_6 rfl ?_
  obtain ⟨v1, hc, h⟩ := h
  refine ex_callV (as := [.int ((I 420 11) + 1)]) (st := []) (ci := 12) dX12_tellErrand_7 zmX12_manAt zl_RX12_315 ziX12_manAt zvX12_manAt (by decide) (ly_a420 hL) rfl (Nat.le_of_ble_eq_true rfl) (Nat.le_of_ble_eq_true rfl) hc ?_
  refine ex_step (pc' := 11) (ls' := [some (.ref 420), some (.int v1), none, none, none, none]) dX12_tellErrand_10 rfl ?_
  refine ex_step (pc' := 12) dX12_tellErrand_11 rfl ?_
  refine ex_if (pc' := 39) dX12_tellErrand_12 (by decide) (fun c => ?_) (fun c => ?_)
  · have h := h.1 c
    exact h
  · have h := h.2 c
    refine ex_step (pc' := 16) dX12_tellErrand_15 rfl ?_
    refine ex_getr dX12_tellErrand_16 wf_RX12_61 (ly_a420 hL) rfl (ly_r420_28 hL) ?_
    refine ex_step (pc' := 21) (st' := [.int 7, .ref 435]) dX12_tellErrand_19 rfl ?_
    refine ex_step (pc' := 22) dX12_tellErrand_21 rfl ?_
    refine ex_geti dX12_tellErrand_22 wf_RX12_261 (ly_a420 hL) rfl ?_
    refine ex_step (pc' := 26) dX12_tellErrand_25 rfl ?_
    refine ex_step (pc' := 27) dX12_tellErrand_26 rfl ?_
    refine ex_step (pc' := 28) dX12_tellErrand_27 rfl ?_
    obtain ⟨hv, h⟩ := h
    refine ex_iald dX12_tellErrand_28 (Or.inl (ly_a435 hL)) hv ?_
    refine ex_step (pc' := 31) (st' := [.int 6, .int (I 435 (((7 : Int32) * (I 420 19)) + v1).toNatClampNeg)]) dX12_tellErrand_29 rfl ?_
    refine ex_icmp (pc' := 39) dX12_tellErrand_31 (by decide) (fun c => ?_) (fun c => ?_)
    · have h := h.1 c
      exact h
    · have h := h.2 (Classical.not_not.mp c)
      refine ex_step (pc' := 35) dX12_tellErrand_34 rfl ?_
      refine ex_step (pc' := 36) (st' := [.int 2, .ref 420]) dX12_tellErrand_35 rfl ?_
      obtain ⟨I2, hc, h⟩ := h
      refine ex_callV (as := [.int 2]) (st := []) (ci := 12) dX12_tellErrand_36 zmX12_fail zl_RX12_243 ziX12_fail zvX12_fail (by decide) (ly_a420 hL) rfl (Nat.le_of_ble_eq_true rfl) (Nat.le_of_ble_eq_true rfl) hc ?_
      exact h
set_option maxHeartbeats 4000000 in
theorem BX12_tellErrand_39 {d : Nat} {Z : zZ} {I : zI} {J : zJ} {o : zO} {t u : Nat} (x1 : Int32) (hL : zLY Z t u)  (h : (((I 420 13) ≤ 0 → (∃ (I1 : zI), zE (d + 3) kX12_goesOn 0 [some (.ref 420)] [] Z I J (none, Z, I1, J) ∧ (∃ (v2 : Int32) (I3 : zI), zE (d + 3) kX12_known 0 [some (.ref 420), none, none] [] Z I1 J (some (.int v2), Z, I3, J) ∧ (∃ (v4 : Int32) (I5 : zI), zE (d + 3) kX12_bounded 0 [some (.ref 420), some (.int 0), some (.int 11), none] [] Z I3 J (some (.int v4), Z, I5, J) ∧ (∃ (v6 : Int32) (I7 : zI), zE (d + 3) kX12_bounded 0 [some (.ref 420), some (.int 0), some (.int 11), none] [] Z I5 J (some (.int v6), Z, I7, J) ∧ (∃ (I8 : zI), zE (d + 3) kX12_must 0 [some (.ref 420), some (.int 4)] [] Z I7 J (none, Z, I8, J) ∧ ((0 < (I8 420 13) → o = (none, Z, I8, J)) ∧ (¬ 0 < (I8 420 13) → ((0 ≤ x1 → (vp_in (((7 : Int32) * (I8 420 19)) + x1) 14 ∧ (∀ y9 : Int32, y9 = ((((42 : Int32) * (I8 420 19)) + ((6 : Int32) * x1)) + (I8 435 (((7 : Int32) * (I8 420 19)) + x1).toNatClampNeg)) → (vp_in y9 84 ∧ (∀ I10 : zI, I10 = zu I8 436 y9.toNatClampNeg v4 → (vp_in y9 84 ∧ (∀ I11 : zI, I11 = zu I10 437 y9.toNatClampNeg v6 → (vp_in (((7 : Int32) * (I11 420 19)) + x1) 14 ∧ (vp_in (((7 : Int32) * (I11 420 19)) + x1) 14 ∧ (∀ I12 : zI, I12 = zu I11 435 (((7 : Int32) * (I11 420 19)) + x1).toNatClampNeg ((I11 435 (((7 : Int32) * (I11 420 19)) + x1).toNatClampNeg) + 1) → (∃ (I13 : zI), zE (d + 3) kX12_notesCorner 0 [some (.ref 420), some (.int (I3 420 11)), some (.int v4), some (.int v6)] [] Z I12 J (none, Z, I13, J) ∧ o = (none, Z, I13, J)))))))))))) ∧ (¬ 0 ≤ x1 → o = (none, Z, I8, J))))))))))) ∧ (¬ (I 420 13) ≤ 0 → o = (none, Z, I, J)))) : zE (d + 4) kX12_tellErrand 39 [some (.ref 420), some (.int x1), none, none, none, none] [] Z I J o := by
  refine ex_step (pc' := 40) dX12_tellErrand_39 rfl ?_
  refine ex_geti dX12_tellErrand_40 wf_RX12_228 (ly_a420 hL) rfl ?_
  refine ex_if (pc' := 47) dX12_tellErrand_43 (by decide) (fun c => ?_) (fun c => ?_)
  · have h := h.1 c
    refine ex_step (pc' := 48) dX12_tellErrand_47 rfl ?_
    obtain ⟨I1, hc, h⟩ := h
    refine ex_callV (as := []) (st := []) (ci := 12) dX12_tellErrand_48 zmX12_goesOn zl_RX12_249 ziX12_goesOn zvX12_goesOn (by decide) (ly_a420 hL) rfl (Nat.le_of_ble_eq_true rfl) (Nat.le_of_ble_eq_true rfl) hc ?_
    refine ex_step (pc' := 52) dX12_tellErrand_51 rfl ?_
    obtain ⟨v2, I3, hc, h⟩ := h
    refine ex_callV (as := []) (st := []) (ci := 12) dX12_tellErrand_52 zmX12_known zl_RX12_302 ziX12_known zvX12_known (by decide) (ly_a420 hL) rfl (Nat.le_of_ble_eq_true rfl) (Nat.le_of_ble_eq_true rfl) hc ?_
    refine ex_step (pc' := 56) dX12_tellErrand_55 rfl ?_
    refine ex_step (pc' := 57) dX12_tellErrand_56 rfl ?_
    refine ex_geti dX12_tellErrand_57 wf_RX12_231 (ly_a420 hL) rfl ?_
    refine ex_step (pc' := 61) (ls' := [some (.ref 420), some (.int x1), some (.int (I3 420 11)), none, none, none]) dX12_tellErrand_60 rfl ?_
    refine ex_step (pc' := 62) dX12_tellErrand_61 rfl ?_
    refine ex_step (pc' := 63) (st' := [.int 0, .ref 420]) dX12_tellErrand_62 rfl ?_
    refine ex_step (pc' := 65) (st' := [.int 11, .int 0, .ref 420]) dX12_tellErrand_63 rfl ?_
    obtain ⟨v4, I5, hc, h⟩ := h
    refine ex_callV (as := [.int 0, .int 11]) (st := []) (ci := 12) dX12_tellErrand_65 zmX12_bounded zl_RX12_289 ziX12_bounded zvX12_bounded (by decide) (ly_a420 hL) rfl (Nat.le_of_ble_eq_true rfl) (Nat.le_of_ble_eq_true rfl) hc ?_
    refine ex_step (pc' := 69) (ls' := [some (.ref 420), some (.int x1), some (.int (I3 420 11)), some (.int v4), none, none]) dX12_tellErrand_68 rfl ?_
    refine ex_step (pc' := 70) dX12_tellErrand_69 rfl ?_
    refine ex_step (pc' := 71) (st' := [.int 0, .ref 420]) dX12_tellErrand_70 rfl ?_
    refine ex_step (pc' := 73) (st' := [.int 11, .int 0, .ref 420]) dX12_tellErrand_71 rfl ?_
    obtain ⟨v6, I7, hc, h⟩ := h
    refine ex_callV (as := [.int 0, .int 11]) (st := []) (ci := 12) dX12_tellErrand_73 zmX12_bounded zl_RX12_289 ziX12_bounded zvX12_bounded (by decide) (ly_a420 hL) rfl (Nat.le_of_ble_eq_true rfl) (Nat.le_of_ble_eq_true rfl) hc ?_
    refine ex_step (pc' := 78) (ls' := [some (.ref 420), some (.int x1), some (.int (I3 420 11)), some (.int v4), some (.int v6), none]) dX12_tellErrand_76 rfl ?_
    refine ex_step (pc' := 79) dX12_tellErrand_78 rfl ?_
    refine ex_step (pc' := 80) (st' := [.int 4, .ref 420]) dX12_tellErrand_79 rfl ?_
    obtain ⟨I8, hc, h⟩ := h
    refine ex_callV (as := [.int 4]) (st := []) (ci := 12) dX12_tellErrand_80 zmX12_must zl_RX12_293 ziX12_must zvX12_must (by decide) (ly_a420 hL) rfl (Nat.le_of_ble_eq_true rfl) (Nat.le_of_ble_eq_true rfl) hc ?_
    refine ex_step (pc' := 84) dX12_tellErrand_83 rfl ?_
    refine ex_geti dX12_tellErrand_84 wf_RX12_228 (ly_a420 hL) rfl ?_
    refine ex_if (pc' := 94) dX12_tellErrand_87 (by decide) (fun c => ?_) (fun c => ?_)
    · have h := h.1 c
      rw [h]; exact ex_ret (v := none) ⟨dX12_tellErrand_94, rfl⟩
    · have h := h.2 c
      refine ex_step (pc' := 91) dX12_tellErrand_90 rfl ?_
      refine ex_if (pc' := 95) dX12_tellErrand_91 (by decide) (fun c => ?_) (fun c => ?_)
      · have h := h.1 c
        refine ex_step (pc' := 97) (st' := [.int 42]) dX12_tellErrand_95 rfl ?_
        refine ex_step (pc' := 98) dX12_tellErrand_97 rfl ?_
        refine ex_geti dX12_tellErrand_98 wf_RX12_261 (ly_a420 hL) rfl ?_
        refine ex_step (pc' := 102) dX12_tellErrand_101 rfl ?_
        refine ex_step (pc' := 104) (st' := [.int 6, .int ((42 : Int32) * (I8 420 19))]) dX12_tellErrand_102 rfl ?_
        refine ex_step (pc' := 105) dX12_tellErrand_104 rfl ?_
        refine ex_step (pc' := 106) dX12_tellErrand_105 rfl ?_
        refine ex_step (pc' := 107) dX12_tellErrand_106 rfl ?_
        refine ex_step (pc' := 108) dX12_tellErrand_107 rfl ?_
        refine ex_getr dX12_tellErrand_108 wf_RX12_61 (ly_a420 hL) rfl (ly_r420_28 hL) ?_
        refine ex_step (pc' := 113) (st' := [.int 7, .ref 435, .int (((42 : Int32) * (I8 420 19)) + ((6 : Int32) * x1))]) dX12_tellErrand_111 rfl ?_
        refine ex_step (pc' := 114) dX12_tellErrand_113 rfl ?_
        refine ex_geti dX12_tellErrand_114 wf_RX12_261 (ly_a420 hL) rfl ?_
        refine ex_step (pc' := 118) dX12_tellErrand_117 rfl ?_
        refine ex_step (pc' := 119) dX12_tellErrand_118 rfl ?_
        refine ex_step (pc' := 120) dX12_tellErrand_119 rfl ?_
        obtain ⟨hv, h⟩ := h
        refine ex_iald dX12_tellErrand_120 (Or.inl (ly_a435 hL)) hv ?_
        refine ex_step (pc' := 122) dX12_tellErrand_121 rfl ?_
        refine ex_topi (fun y9 ey9 => ?_)
        have h := h y9 ey9
        refine ex_step (pc' := 124) (ls' := [some (.ref 420), some (.int x1), some (.int (I3 420 11)), some (.int v4), some (.int v6), some (.int y9)]) dX12_tellErrand_122 rfl ?_
        refine ex_step (pc' := 125) dX12_tellErrand_124 rfl ?_
        refine ex_getr dX12_tellErrand_125 wf_RX12_64 (ly_a420 hL) rfl (ly_r420_29 hL) ?_
        refine ex_step (pc' := 130) dX12_tellErrand_128 rfl ?_
        refine ex_step (pc' := 131) dX12_tellErrand_130 rfl ?_
        obtain ⟨hv, h⟩ := h
        refine ex_iastN dX12_tellErrand_131 (ly_a436 hL) hv (fun I10 eI10 => ?_)
        have h := h I10 eI10
        refine ex_step (pc' := 133) dX12_tellErrand_132 rfl ?_
        refine ex_getr dX12_tellErrand_133 wf_RX12_67 (ly_a420 hL) rfl (ly_r420_30 hL) ?_
        refine ex_step (pc' := 138) dX12_tellErrand_136 rfl ?_
        refine ex_step (pc' := 140) dX12_tellErrand_138 rfl ?_
        obtain ⟨hv, h⟩ := h
        refine ex_iastN dX12_tellErrand_140 (ly_a437 hL) hv (fun I11 eI11 => ?_)
        have h := h I11 eI11
        refine ex_step (pc' := 142) dX12_tellErrand_141 rfl ?_
        refine ex_getr dX12_tellErrand_142 wf_RX12_61 (ly_a420 hL) rfl (ly_r420_28 hL) ?_
        refine ex_step (pc' := 147) (st' := [.int 7, .ref 435]) dX12_tellErrand_145 rfl ?_
        refine ex_step (pc' := 148) dX12_tellErrand_147 rfl ?_
        refine ex_geti dX12_tellErrand_148 wf_RX12_261 (ly_a420 hL) rfl ?_
        refine ex_step (pc' := 152) dX12_tellErrand_151 rfl ?_
        refine ex_step (pc' := 153) dX12_tellErrand_152 rfl ?_
        refine ex_step (pc' := 154) dX12_tellErrand_153 rfl ?_
        refine ex_step (pc' := 155) dX12_tellErrand_154 rfl ?_
        obtain ⟨hv, h⟩ := h
        refine ex_iald dX12_tellErrand_155 (Or.inl (ly_a435 hL)) hv ?_
        refine ex_step (pc' := 157) (st' := [.int 1, .int (I11 435 (((7 : Int32) * (I11 420 19)) + x1).toNatClampNeg), .int (((7 : Int32) * (I11 420 19)) + x1), .ref 435]) dX12_tellErrand_156 rfl ?_
        refine ex_step (pc' := 158) dX12_tellErrand_157 rfl ?_
        obtain ⟨hv, h⟩ := h
        refine ex_iastN dX12_tellErrand_158 (ly_a435 hL) hv (fun I12 eI12 => ?_)
        have h := h I12 eI12
        refine ex_step (pc' := 160) dX12_tellErrand_159 rfl ?_
        refine ex_step (pc' := 161) dX12_tellErrand_160 rfl ?_
        refine ex_step (pc' := 162) dX12_tellErrand_161 rfl ?_
        refine ex_step (pc' := 164) dX12_tellErrand_162 rfl ?_
        obtain ⟨I13, hc, h⟩ := h
        refine ex_callV (as := [.int (I3 420 11), .int v4, .int v6]) (st := []) (ci := 12) dX12_tellErrand_164 zmX12_notesCorner zl_RX12_318 ziX12_notesCorner zvX12_notesCorner (by decide) (ly_a420 hL) rfl (Nat.le_of_ble_eq_true rfl) (Nat.le_of_ble_eq_true rfl) hc ?_
        rw [h]; exact ex_ret (v := none) ⟨dX12_tellErrand_167, rfl⟩
      · have h := h.2 c
        rw [h]; exact ex_ret (v := none) ⟨dX12_tellErrand_94, rfl⟩
  · have h := h.2 c
    rw [h]; exact ex_ret (v := none) ⟨dX12_tellErrand_46, rfl⟩
set_option maxHeartbeats 4000000 in
theorem BX12_tellPillar_0 {d : Nat} {Z : zZ} {I : zI} {J : zJ} {o : zO} {t u : Nat}  (hL : zLY Z t u)  (h : (vp_in (I 420 19) 2 ∧ (∀ y1 : Int32, y1 = (((6 : Int32) * (I 420 19)) + (I 438 (I 420 19).toNatClampNeg)) → (∃ (v2 : Int32) (I3 : zI), zE (d + 2) kX12_bounded 0 [some (.ref 420), some (.int 0), some (.int 10), none] [] Z I J (some (.int v2), Z, I3, J) ∧ (vp_in y1 12 ∧ (∀ I4 : zI, I4 = zu I3 439 y1.toNatClampNeg v2 → (∃ (v5 : Int32) (I6 : zI), zE (d + 2) kX12_bounded 0 [some (.ref 420), some (.int 0), some (.int 10), none] [] Z I4 J (some (.int v5), Z, I6, J) ∧ (vp_in y1 12 ∧ (∀ I7 : zI, I7 = zu I6 440 y1.toNatClampNeg v5 → (∃ (I8 : zI), zE (d + 2) kX12_must 0 [some (.ref 420), some (.int 4)] [] Z I7 J (none, Z, I8, J) ∧ ((¬ (I8 420 13) = 0 → o = (none, Z, I8, J)) ∧ ((I8 420 13) = 0 → (vp_in (I8 420 19) 2 ∧ (vp_in (I8 420 19) 2 ∧ (∀ I9 : zI, I9 = zu I8 438 (I8 420 19).toNatClampNeg ((I8 438 (I8 420 19).toNatClampNeg) + 1) → o = (none, Z, I9, J)))))))))))))))) : zE (d + 3) kX12_tellPillar 0 [some (.ref 420), none] [] Z I J o := by
  refine ex_step (pc' := 2) (st' := [.int 6]) dX12_tellPillar_0 rfl ?_
  refine ex_step (pc' := 3) dX12_tellPillar_2 rfl ?_
  refine ex_geti dX12_tellPillar_3 wf_RX12_261 (ly_a420 hL) rfl ?_
  refine ex_step (pc' := 7) dX12_tellPillar_6 rfl ?_
  refine ex_step (pc' := 8) dX12_tellPillar_7 rfl ?_
  refine ex_getr dX12_tellPillar_8 wf_RX12_70 (ly_a420 hL) rfl (ly_r420_31 hL) ?_
  refine ex_step (pc' := 12) dX12_tellPillar_11 rfl ?_
  refine ex_geti dX12_tellPillar_12 wf_RX12_261 (ly_a420 hL) rfl ?_
  obtain ⟨hv, h⟩ := h
  refine ex_iald dX12_tellPillar_15 (Or.inl (ly_a438 hL)) hv ?_
  refine ex_step (pc' := 17) dX12_tellPillar_16 rfl ?_
  refine ex_topi (fun y1 ey1 => ?_)
  have h := h y1 ey1
  refine ex_step (pc' := 18) (ls' := [some (.ref 420), some (.int y1)]) dX12_tellPillar_17 rfl ?_
  refine ex_step (pc' := 19) dX12_tellPillar_18 rfl ?_
  refine ex_getr dX12_tellPillar_19 wf_RX12_73 (ly_a420 hL) rfl (ly_r420_32 hL) ?_
  refine ex_step (pc' := 23) dX12_tellPillar_22 rfl ?_
  refine ex_step (pc' := 24) dX12_tellPillar_23 rfl ?_
  refine ex_step (pc' := 25) (st' := [.int 0, .ref 420, .int y1, .ref 439]) dX12_tellPillar_24 rfl ?_
  refine ex_step (pc' := 27) (st' := [.int 10, .int 0, .ref 420, .int y1, .ref 439]) dX12_tellPillar_25 rfl ?_
  obtain ⟨v2, I3, hc, h⟩ := h
  refine ex_callV (as := [.int 0, .int 10]) (st := [.int y1, .ref 439]) (ci := 12) dX12_tellPillar_27 zmX12_bounded zl_RX12_289 ziX12_bounded zvX12_bounded (by decide) (ly_a420 hL) rfl (Nat.le_of_ble_eq_true rfl) (Nat.le_of_ble_eq_true rfl) hc ?_
  obtain ⟨hv, h⟩ := h
  refine ex_iastN dX12_tellPillar_30 (ly_a439 hL) hv (fun I4 eI4 => ?_)
  have h := h I4 eI4
  refine ex_step (pc' := 32) dX12_tellPillar_31 rfl ?_
  refine ex_getr dX12_tellPillar_32 wf_RX12_76 (ly_a420 hL) rfl (ly_r420_33 hL) ?_
  refine ex_step (pc' := 36) dX12_tellPillar_35 rfl ?_
  refine ex_step (pc' := 37) dX12_tellPillar_36 rfl ?_
  refine ex_step (pc' := 38) (st' := [.int 0, .ref 420, .int y1, .ref 440]) dX12_tellPillar_37 rfl ?_
  refine ex_step (pc' := 40) (st' := [.int 10, .int 0, .ref 420, .int y1, .ref 440]) dX12_tellPillar_38 rfl ?_
  obtain ⟨v5, I6, hc, h⟩ := h
  refine ex_callV (as := [.int 0, .int 10]) (st := [.int y1, .ref 440]) (ci := 12) dX12_tellPillar_40 zmX12_bounded zl_RX12_289 ziX12_bounded zvX12_bounded (by decide) (ly_a420 hL) rfl (Nat.le_of_ble_eq_true rfl) (Nat.le_of_ble_eq_true rfl) hc ?_
  obtain ⟨hv, h⟩ := h
  refine ex_iastN dX12_tellPillar_43 (ly_a440 hL) hv (fun I7 eI7 => ?_)
  have h := h I7 eI7
  refine ex_step (pc' := 45) dX12_tellPillar_44 rfl ?_
  refine ex_step (pc' := 46) (st' := [.int 4, .ref 420]) dX12_tellPillar_45 rfl ?_
  obtain ⟨I8, hc, h⟩ := h
  refine ex_callV (as := [.int 4]) (st := []) (ci := 12) dX12_tellPillar_46 zmX12_must zl_RX12_293 ziX12_must zvX12_must (by decide) (ly_a420 hL) rfl (Nat.le_of_ble_eq_true rfl) (Nat.le_of_ble_eq_true rfl) hc ?_
  refine ex_step (pc' := 50) dX12_tellPillar_49 rfl ?_
  refine ex_geti dX12_tellPillar_50 wf_RX12_228 (ly_a420 hL) rfl ?_
  refine ex_if (pc' := 69) dX12_tellPillar_53 (by decide) (fun c => ?_) (fun c => ?_)
  · have h := h.1 c
    rw [h]; exact ex_ret (v := none) ⟨dX12_tellPillar_69, rfl⟩
  · have h := h.2 (Classical.not_not.mp c)
    refine ex_step (pc' := 57) dX12_tellPillar_56 rfl ?_
    refine ex_getr dX12_tellPillar_57 wf_RX12_70 (ly_a420 hL) rfl (ly_r420_31 hL) ?_
    refine ex_step (pc' := 61) dX12_tellPillar_60 rfl ?_
    refine ex_geti dX12_tellPillar_61 wf_RX12_261 (ly_a420 hL) rfl ?_
    refine ex_step (pc' := 65) dX12_tellPillar_64 rfl ?_
    obtain ⟨hv, h⟩ := h
    refine ex_iald dX12_tellPillar_65 (Or.inl (ly_a438 hL)) hv ?_
    refine ex_step (pc' := 67) (st' := [.int 1, .int (I8 438 (I8 420 19).toNatClampNeg), .int (I8 420 19), .ref 438]) dX12_tellPillar_66 rfl ?_
    refine ex_step (pc' := 68) dX12_tellPillar_67 rfl ?_
    obtain ⟨hv, h⟩ := h
    refine ex_iastN dX12_tellPillar_68 (ly_a438 hL) hv (fun I9 eI9 => ?_)
    have h := h I9 eI9
    rw [h]; exact ex_ret (v := none) ⟨dX12_tellPillar_69, rfl⟩
set_option maxHeartbeats 4000000 in
theorem BX12_tellLaw_0 {d : Nat} {Z : zZ} {I : zI} {J : zJ} {o : zO} {t u : Nat} (x1 : Int32) (hL : zLY Z t u)  (h : (∃ (I1 : zI), zE (d + 4) kX12_must 0 [some (.ref 420), some (.int 5)] [] Z I J (none, Z, I1, J) ∧ zE (d + 5) kX12_tellLaw 12 [some (.ref 420), some (.int x1), some (.int (I1 420 41)), some (.int 0)] [] Z I1 J o)) : zE (d + 5) kX12_tellLaw 0 [some (.ref 420), some (.int x1), none, none] [] Z I J o := by
  refine ex_step (pc' := 1) dX12_tellLaw_0 rfl ?_
  refine ex_step (pc' := 2) (st' := [.int 5, .ref 420]) dX12_tellLaw_1 rfl ?_
  obtain ⟨I1, hc, h⟩ := h
  refine ex_callV (as := [.int 5]) (st := []) (ci := 12) dX12_tellLaw_2 zmX12_must zl_RX12_293 ziX12_must zvX12_must (by decide) (ly_a420 hL) rfl (Nat.le_of_ble_eq_true rfl) (Nat.le_of_ble_eq_true rfl) hc ?_
  refine ex_step (pc' := 6) dX12_tellLaw_5 rfl ?_
  refine ex_geti dX12_tellLaw_6 wf_RX12_270 (ly_a420 hL) rfl ?_
  refine ex_step (pc' := 10) (ls' := [some (.ref 420), some (.int x1), some (.int (I1 420 41)), none]) dX12_tellLaw_9 rfl ?_
  refine ex_step (pc' := 11) (st' := [.int 0]) dX12_tellLaw_10 rfl ?_
  refine ex_step (pc' := 12) (ls' := [some (.ref 420), some (.int x1), some (.int (I1 420 41)), some (.int 0)]) dX12_tellLaw_11 rfl ?_
  exact h
set_option maxHeartbeats 4000000 in
theorem BX12_tellLaw_12 {d : Nat} {Z : zZ} {I : zI} {J : zJ} {o : zO} {t u : Nat} (x1 : Int32) (x2 : Int32) (x3 : Int32) (hL : zLY Z t u)  (h : ((¬ (I 420 13) = 0 → zE (d + 5) kX12_tellLaw 129 [some (.ref 420), some (.int x1), some (.int x2), none] [] Z I J o) ∧ ((I 420 13) = 0 → (∃ (v1 : Int32), zE (d + 4) kX12_is 0 [some (.ref 420), some (.int 28)] [] Z I J (some (.int v1), Z, I, J) ∧ ((v1 = 0 → zE (d + 5) kX12_tellLaw 129 [some (.ref 420), some (.int x1), some (.int x2), none] [] Z I J o) ∧ (¬ v1 = 0 → ((¬ x3 = 4 → zE (d + 5) kX12_tellLaw 38 [some (.ref 420), some (.int x1), some (.int x2), some (.int x3)] [] Z I J o) ∧ (x3 = 4 → (∃ (I2 : zI), zE (d + 4) kX12_fail 0 [some (.ref 420), some (.int 2)] [] Z I J (none, Z, I2, J) ∧ zE (d + 5) kX12_tellLaw 38 [some (.ref 420), some (.int x1), some (.int x2), some (.int x3)] [] Z I2 J o))))))))) : zE (d + 5) kX12_tellLaw 12 [some (.ref 420), some (.int x1), some (.int x2), some (.int x3)] [] Z I J o := by
  refine ex_step (pc' := 13) dX12_tellLaw_12 rfl ?_
  refine ex_geti dX12_tellLaw_13 wf_RX12_228 (ly_a420 hL) rfl ?_
  refine ex_if (pc' := 129) dX12_tellLaw_16 (by decide) (fun c => ?_) (fun c => ?_)
  · have h := h.1 c
    exact ex_less (ls' := [some (.ref 420), some (.int x1), some (.int x2), none]) ⟨rfl, ⟨rfl, ⟨rfl, trivial⟩⟩⟩ h
  · have h := h.2 (Classical.not_not.mp c)
    refine ex_step (pc' := 20) dX12_tellLaw_19 rfl ?_
    refine ex_step (pc' := 22) (st' := [.int 28, .ref 420]) dX12_tellLaw_20 rfl ?_
    obtain ⟨v1, hc, h⟩ := h
    refine ex_callV (as := [.int 28]) (st := []) (ci := 12) dX12_tellLaw_22 zmX12_is zl_RX12_246 ziX12_is zvX12_is (by decide) (ly_a420 hL) rfl (Nat.le_of_ble_eq_true rfl) (Nat.le_of_ble_eq_true rfl) hc ?_
    refine ex_if (pc' := 129) dX12_tellLaw_25 (by decide) (fun c => ?_) (fun c => ?_)
    · have h := h.1 c
      exact ex_less (ls' := [some (.ref 420), some (.int x1), some (.int x2), none]) ⟨rfl, ⟨rfl, ⟨rfl, trivial⟩⟩⟩ h
    · have h := h.2 c
      refine ex_step (pc' := 29) dX12_tellLaw_28 rfl ?_
      refine ex_step (pc' := 30) (st' := [.int 4, .int x3]) dX12_tellLaw_29 rfl ?_
      refine ex_icmp (pc' := 38) dX12_tellLaw_30 (by decide) (fun c => ?_) (fun c => ?_)
      · have h := h.1 c
        exact h
      · have h := h.2 (Classical.not_not.mp c)
        refine ex_step (pc' := 34) dX12_tellLaw_33 rfl ?_
        refine ex_step (pc' := 35) (st' := [.int 2, .ref 420]) dX12_tellLaw_34 rfl ?_
        obtain ⟨I2, hc, h⟩ := h
        refine ex_callV (as := [.int 2]) (st := []) (ci := 12) dX12_tellLaw_35 zmX12_fail zl_RX12_243 ziX12_fail zvX12_fail (by decide) (ly_a420 hL) rfl (Nat.le_of_ble_eq_true rfl) (Nat.le_of_ble_eq_true rfl) hc ?_
        exact h
set_option maxHeartbeats 4000000 in
theorem BX12_tellLaw_38 {d : Nat} {Z : zZ} {I : zI} {J : zJ} {o : zO} {t u : Nat} (x1 : Int32) (x2 : Int32) (x3 : Int32) (hL : zLY Z t u)  (h : (((I 420 13) ≤ 0 → (∃ (I1 : zI), zE (d + 4) kX12_goesOn 0 [some (.ref 420)] [] Z I J (none, Z, I1, J) ∧ (vp_in (I1 420 41) 260 ∧ (∀ I2 : zI, I2 = zu I1 447 (I1 420 41).toNatClampNeg (vp_nar .boolean 1) → (vp_in (I2 420 41) 260 ∧ (∀ I3 : zI, I3 = zu I2 448 (I2 420 41).toNatClampNeg (I2 420 47) → (∃ (I4 : zI), zE (d + 4) kX12_expression 0 [some (.ref 420), none, none] [] Z I3 J (none, Z, I4, J) ∧ (∃ (I5 : zI), zE (d + 4) kX12_must 0 [some (.ref 420), some (.int 13)] [] Z I4 J (none, Z, I5, J) ∧ (vp_in (I5 420 41) 260 ∧ (∀ I6 : zI, I6 = zu I5 449 (I5 420 41).toNatClampNeg (I5 420 47) → ((¬ (I6 420 13) = 0 → zE (d + 5) kX12_tellLaw 110 [some (.ref 420), some (.int x1), some (.int x2), some (.int (x3 + 1))] [] Z I6 J o) ∧ ((I6 420 13) = 0 → (∃ (I7 : zI), zE (d + 4) kX12_expression 0 [some (.ref 420), none, none] [] Z I6 J (none, Z, I7, J) ∧ zE (d + 5) kX12_tellLaw 110 [some (.ref 420), some (.int x1), some (.int x2), some (.int (x3 + 1))] [] Z I7 J o))))))))))))) ∧ (¬ (I 420 13) ≤ 0 → o = (none, Z, I, J)))) : zE (d + 5) kX12_tellLaw 38 [some (.ref 420), some (.int x1), some (.int x2), some (.int x3)] [] Z I J o := by
  refine ex_step (pc' := 39) dX12_tellLaw_38 rfl ?_
  refine ex_geti dX12_tellLaw_39 wf_RX12_228 (ly_a420 hL) rfl ?_
  refine ex_if (pc' := 46) dX12_tellLaw_42 (by decide) (fun c => ?_) (fun c => ?_)
  · have h := h.1 c
    refine ex_step (pc' := 49) (ls' := [some (.ref 420), some (.int x1), some (.int x2), some (.int (x3 + 1))]) dX12_tellLaw_46 rfl ?_
    refine ex_step (pc' := 50) dX12_tellLaw_49 rfl ?_
    obtain ⟨I1, hc, h⟩ := h
    refine ex_callV (as := []) (st := []) (ci := 12) dX12_tellLaw_50 zmX12_goesOn zl_RX12_249 ziX12_goesOn zvX12_goesOn (by decide) (ly_a420 hL) rfl (Nat.le_of_ble_eq_true rfl) (Nat.le_of_ble_eq_true rfl) hc ?_
    refine ex_step (pc' := 54) dX12_tellLaw_53 rfl ?_
    refine ex_getr dX12_tellLaw_54 wf_RX12_97 (ly_a420 hL) rfl (ly_r420_42 hL) ?_
    refine ex_step (pc' := 58) dX12_tellLaw_57 rfl ?_
    refine ex_geti dX12_tellLaw_58 wf_RX12_270 (ly_a420 hL) rfl ?_
    refine ex_step (pc' := 62) (st' := [.int 1, .int (I1 420 41), .ref 447]) dX12_tellLaw_61 rfl ?_
    obtain ⟨hv, h⟩ := h
    refine ex_zastN dX12_tellLaw_62 (ly_a447 hL) hv (fun I2 eI2 => ?_)
    have h := h I2 eI2
    refine ex_step (pc' := 64) dX12_tellLaw_63 rfl ?_
    refine ex_getr dX12_tellLaw_64 wf_RX12_101 (ly_a420 hL) rfl (ly_r420_43 hL) ?_
    refine ex_step (pc' := 68) dX12_tellLaw_67 rfl ?_
    refine ex_geti dX12_tellLaw_68 wf_RX12_270 (ly_a420 hL) rfl ?_
    refine ex_step (pc' := 72) dX12_tellLaw_71 rfl ?_
    refine ex_geti dX12_tellLaw_72 wf_RX12_273 (ly_a420 hL) rfl ?_
    obtain ⟨hv, h⟩ := h
    refine ex_iastN dX12_tellLaw_75 (ly_a448 hL) hv (fun I3 eI3 => ?_)
    have h := h I3 eI3
    refine ex_step (pc' := 77) dX12_tellLaw_76 rfl ?_
    obtain ⟨I4, hc, h⟩ := h
    refine ex_callV (as := []) (st := []) (ci := 12) dX12_tellLaw_77 zmX12_expression zl_RX12_322 ziX12_expression zvX12_expression (by decide) (ly_a420 hL) rfl (Nat.le_of_ble_eq_true rfl) (Nat.le_of_ble_eq_true rfl) hc ?_
    refine ex_step (pc' := 81) dX12_tellLaw_80 rfl ?_
    refine ex_step (pc' := 83) (st' := [.int 13, .ref 420]) dX12_tellLaw_81 rfl ?_
    obtain ⟨I5, hc, h⟩ := h
    refine ex_callV (as := [.int 13]) (st := []) (ci := 12) dX12_tellLaw_83 zmX12_must zl_RX12_293 ziX12_must zvX12_must (by decide) (ly_a420 hL) rfl (Nat.le_of_ble_eq_true rfl) (Nat.le_of_ble_eq_true rfl) hc ?_
    refine ex_step (pc' := 87) dX12_tellLaw_86 rfl ?_
    refine ex_getr dX12_tellLaw_87 wf_RX12_104 (ly_a420 hL) rfl (ly_r420_44 hL) ?_
    refine ex_step (pc' := 91) dX12_tellLaw_90 rfl ?_
    refine ex_geti dX12_tellLaw_91 wf_RX12_270 (ly_a420 hL) rfl ?_
    refine ex_step (pc' := 95) dX12_tellLaw_94 rfl ?_
    refine ex_geti dX12_tellLaw_95 wf_RX12_273 (ly_a420 hL) rfl ?_
    obtain ⟨hv, h⟩ := h
    refine ex_iastN dX12_tellLaw_98 (ly_a449 hL) hv (fun I6 eI6 => ?_)
    have h := h I6 eI6
    refine ex_step (pc' := 100) dX12_tellLaw_99 rfl ?_
    refine ex_geti dX12_tellLaw_100 wf_RX12_228 (ly_a420 hL) rfl ?_
    refine ex_if (pc' := 110) dX12_tellLaw_103 (by decide) (fun c => ?_) (fun c => ?_)
    · have h := h.1 c
      exact h
    · have h := h.2 (Classical.not_not.mp c)
      refine ex_step (pc' := 107) dX12_tellLaw_106 rfl ?_
      obtain ⟨I7, hc, h⟩ := h
      refine ex_callV (as := []) (st := []) (ci := 12) dX12_tellLaw_107 zmX12_expression zl_RX12_322 ziX12_expression zvX12_expression (by decide) (ly_a420 hL) rfl (Nat.le_of_ble_eq_true rfl) (Nat.le_of_ble_eq_true rfl) hc ?_
      exact h
  · have h := h.2 c
    rw [h]; exact ex_ret (v := none) ⟨dX12_tellLaw_45, rfl⟩
set_option maxHeartbeats 4000000 in
theorem BX12_tellLaw_110 {d : Nat} {Z : zZ} {I : zI} {J : zJ} {o : zO} {t u : Nat} (x1 : Int32) (x2 : Int32) (x3 : Int32) (hL : zLY Z t u)  (h : (∃ (I1 : zI), zE (d + 4) kX12_must 0 [some (.ref 420), some (.int 29)] [] Z I J (none, Z, I1, J) ∧ (∃ (I2 : zI), zE (d + 4) kX12_term 0 [some (.ref 420)] [] Z I1 J (none, Z, I2, J) ∧ (∃ (I3 : zI), zE (d + 4) kX12_must 0 [some (.ref 420), some (.int 30)] [] Z I2 J (none, Z, I3, J) ∧ zE (d + 5) kX12_tellLaw 12 [some (.ref 420), some (.int x1), some (.int x2), some (.int x3)] [] Z I3 J o)))) : zE (d + 5) kX12_tellLaw 110 [some (.ref 420), some (.int x1), some (.int x2), some (.int x3)] [] Z I J o := by
  refine ex_step (pc' := 111) dX12_tellLaw_110 rfl ?_
  refine ex_step (pc' := 113) (st' := [.int 29, .ref 420]) dX12_tellLaw_111 rfl ?_
  obtain ⟨I1, hc, h⟩ := h
  refine ex_callV (as := [.int 29]) (st := []) (ci := 12) dX12_tellLaw_113 zmX12_must zl_RX12_293 ziX12_must zvX12_must (by decide) (ly_a420 hL) rfl (Nat.le_of_ble_eq_true rfl) (Nat.le_of_ble_eq_true rfl) hc ?_
  refine ex_step (pc' := 117) dX12_tellLaw_116 rfl ?_
  obtain ⟨I2, hc, h⟩ := h
  refine ex_callV (as := []) (st := []) (ci := 12) dX12_tellLaw_117 zmX12_term zl_RX12_325 ziX12_term zvX12_term (by decide) (ly_a420 hL) rfl (Nat.le_of_ble_eq_true rfl) (Nat.le_of_ble_eq_true rfl) hc ?_
  refine ex_step (pc' := 121) dX12_tellLaw_120 rfl ?_
  refine ex_step (pc' := 123) (st' := [.int 30, .ref 420]) dX12_tellLaw_121 rfl ?_
  obtain ⟨I3, hc, h⟩ := h
  refine ex_callV (as := [.int 30]) (st := []) (ci := 12) dX12_tellLaw_123 zmX12_must zl_RX12_293 ziX12_must zvX12_must (by decide) (ly_a420 hL) rfl (Nat.le_of_ble_eq_true rfl) (Nat.le_of_ble_eq_true rfl) hc ?_
  refine ex_step (pc' := 12) dX12_tellLaw_126 rfl ?_
  exact h
set_option maxHeartbeats 4000000 in
theorem BX12_tellLaw_129 {d : Nat} {Z : zZ} {I : zI} {J : zJ} {o : zO} {t u : Nat} (x1 : Int32) (x2 : Int32) (hL : zLY Z t u)  (h : (vp_in (I 420 41) 260 ∧ (∀ I1 : zI, I1 = zu I 447 (I 420 41).toNatClampNeg (vp_nar .boolean 0) → (∃ (I2 : zI), zE (d + 4) kX12_term 0 [some (.ref 420)] [] Z I1 J (none, Z, I2, J) ∧ (∃ (I3 : zI), zE (d + 4) kX12_must 0 [some (.ref 420), some (.int 4)] [] Z I2 J (none, Z, I3, J) ∧ ((0 < (I3 420 13) → o = (none, Z, I3, J)) ∧ (¬ 0 < (I3 420 13) → ((0 ≤ x1 → (vp_in (((8 : Int32) * (I3 420 19)) + x1) 16 ∧ (∀ I4 : zI, I4 = zu I3 445 (((8 : Int32) * (I3 420 19)) + x1).toNatClampNeg x2 → (vp_in (((8 : Int32) * (I4 420 19)) + x1) 16 ∧ (∀ I5 : zI, I5 = zu I4 446 (((8 : Int32) * (I4 420 19)) + x1).toNatClampNeg (I4 420 41) → o = (none, Z, I5, J)))))) ∧ (¬ 0 ≤ x1 → o = (none, Z, I3, J)))))))))) : zE (d + 5) kX12_tellLaw 129 [some (.ref 420), some (.int x1), some (.int x2), none] [] Z I J o := by
  refine ex_step (pc' := 130) dX12_tellLaw_129 rfl ?_
  refine ex_getr dX12_tellLaw_130 wf_RX12_97 (ly_a420 hL) rfl (ly_r420_42 hL) ?_
  refine ex_step (pc' := 134) dX12_tellLaw_133 rfl ?_
  refine ex_geti dX12_tellLaw_134 wf_RX12_270 (ly_a420 hL) rfl ?_
  refine ex_step (pc' := 138) (st' := [.int 0, .int (I 420 41), .ref 447]) dX12_tellLaw_137 rfl ?_
  obtain ⟨hv, h⟩ := h
  refine ex_zastN dX12_tellLaw_138 (ly_a447 hL) hv (fun I1 eI1 => ?_)
  have h := h I1 eI1
  refine ex_step (pc' := 140) dX12_tellLaw_139 rfl ?_
  obtain ⟨I2, hc, h⟩ := h
  refine ex_callV (as := []) (st := []) (ci := 12) dX12_tellLaw_140 zmX12_term zl_RX12_325 ziX12_term zvX12_term (by decide) (ly_a420 hL) rfl (Nat.le_of_ble_eq_true rfl) (Nat.le_of_ble_eq_true rfl) hc ?_
  refine ex_step (pc' := 144) dX12_tellLaw_143 rfl ?_
  refine ex_step (pc' := 145) (st' := [.int 4, .ref 420]) dX12_tellLaw_144 rfl ?_
  obtain ⟨I3, hc, h⟩ := h
  refine ex_callV (as := [.int 4]) (st := []) (ci := 12) dX12_tellLaw_145 zmX12_must zl_RX12_293 ziX12_must zvX12_must (by decide) (ly_a420 hL) rfl (Nat.le_of_ble_eq_true rfl) (Nat.le_of_ble_eq_true rfl) hc ?_
  refine ex_step (pc' := 149) dX12_tellLaw_148 rfl ?_
  refine ex_geti dX12_tellLaw_149 wf_RX12_228 (ly_a420 hL) rfl ?_
  refine ex_if (pc' := 159) dX12_tellLaw_152 (by decide) (fun c => ?_) (fun c => ?_)
  · have h := h.1 c
    rw [h]; exact ex_ret (v := none) ⟨dX12_tellLaw_159, rfl⟩
  · have h := h.2 c
    refine ex_step (pc' := 156) dX12_tellLaw_155 rfl ?_
    refine ex_if (pc' := 160) dX12_tellLaw_156 (by decide) (fun c => ?_) (fun c => ?_)
    · have h := h.1 c
      refine ex_step (pc' := 161) dX12_tellLaw_160 rfl ?_
      refine ex_getr dX12_tellLaw_161 wf_RX12_91 (ly_a420 hL) rfl (ly_r420_39 hL) ?_
      refine ex_step (pc' := 166) (st' := [.int 8, .ref 445]) dX12_tellLaw_164 rfl ?_
      refine ex_step (pc' := 167) dX12_tellLaw_166 rfl ?_
      refine ex_geti dX12_tellLaw_167 wf_RX12_261 (ly_a420 hL) rfl ?_
      refine ex_step (pc' := 171) dX12_tellLaw_170 rfl ?_
      refine ex_step (pc' := 172) dX12_tellLaw_171 rfl ?_
      refine ex_step (pc' := 173) dX12_tellLaw_172 rfl ?_
      refine ex_step (pc' := 174) dX12_tellLaw_173 rfl ?_
      obtain ⟨hv, h⟩ := h
      refine ex_iastN dX12_tellLaw_174 (ly_a445 hL) hv (fun I4 eI4 => ?_)
      have h := h I4 eI4
      refine ex_step (pc' := 176) dX12_tellLaw_175 rfl ?_
      refine ex_getr dX12_tellLaw_176 wf_RX12_94 (ly_a420 hL) rfl (ly_r420_40 hL) ?_
      refine ex_step (pc' := 181) (st' := [.int 8, .ref 446]) dX12_tellLaw_179 rfl ?_
      refine ex_step (pc' := 182) dX12_tellLaw_181 rfl ?_
      refine ex_geti dX12_tellLaw_182 wf_RX12_261 (ly_a420 hL) rfl ?_
      refine ex_step (pc' := 186) dX12_tellLaw_185 rfl ?_
      refine ex_step (pc' := 187) dX12_tellLaw_186 rfl ?_
      refine ex_step (pc' := 188) dX12_tellLaw_187 rfl ?_
      refine ex_step (pc' := 189) dX12_tellLaw_188 rfl ?_
      refine ex_geti dX12_tellLaw_189 wf_RX12_270 (ly_a420 hL) rfl ?_
      obtain ⟨hv, h⟩ := h
      refine ex_iastN dX12_tellLaw_192 (ly_a446 hL) hv (fun I5 eI5 => ?_)
      have h := h I5 eI5
      rw [h]; exact ex_ret (v := none) ⟨dX12_tellLaw_193, rfl⟩
    · have h := h.2 c
      rw [h]; exact ex_ret (v := none) ⟨dX12_tellLaw_159, rfl⟩
set_option maxHeartbeats 4000000 in
theorem BX12_term_0 {d : Nat} {Z : zZ} {I : zI} {J : zJ} {o : zO} {t u : Nat}  (hL : zLY Z t u)  (h : (vp_in (I 420 41) 260 ∧ (∀ I1 : zI, I1 = zu I 450 (I 420 41).toNatClampNeg (I 420 47) → ((¬ (I1 420 13) = 0 → (vp_in (I1 420 41) 260 ∧ (∀ I2 : zI, I2 = zu I1 451 (I1 420 41).toNatClampNeg (I1 420 47) → (∀ I3 : zI, I3 = zu I2 420 41 ((I2 420 41) + 1) → o = (none, Z, I3, J))))) ∧ ((I1 420 13) = 0 → (∃ (I4 : zI), zE (d + 3) kX12_expression 0 [some (.ref 420), none, none] [] Z I1 J (none, Z, I4, J) ∧ (vp_in (I4 420 41) 260 ∧ (∀ I5 : zI, I5 = zu I4 451 (I4 420 41).toNatClampNeg (I4 420 47) → (∀ I6 : zI, I6 = zu I5 420 41 ((I5 420 41) + 1) → o = (none, Z, I6, J)))))))))) : zE (d + 4) kX12_term 0 [some (.ref 420)] [] Z I J o := by
  refine ex_step (pc' := 1) dX12_term_0 rfl ?_
  refine ex_getr dX12_term_1 wf_RX12_107 (ly_a420 hL) rfl (ly_r420_45 hL) ?_
  refine ex_step (pc' := 5) dX12_term_4 rfl ?_
  refine ex_geti dX12_term_5 wf_RX12_270 (ly_a420 hL) rfl ?_
  refine ex_step (pc' := 9) dX12_term_8 rfl ?_
  refine ex_geti dX12_term_9 wf_RX12_273 (ly_a420 hL) rfl ?_
  obtain ⟨hv, h⟩ := h
  refine ex_iastN dX12_term_12 (ly_a450 hL) hv (fun I1 eI1 => ?_)
  have h := h I1 eI1
  refine ex_step (pc' := 14) dX12_term_13 rfl ?_
  refine ex_geti dX12_term_14 wf_RX12_228 (ly_a420 hL) rfl ?_
  refine ex_if (pc' := 24) dX12_term_17 (by decide) (fun c => ?_) (fun c => ?_)
  · have h := h.1 c
    refine ex_step (pc' := 25) dX12_term_24 rfl ?_
    refine ex_getr dX12_term_25 wf_RX12_110 (ly_a420 hL) rfl (ly_r420_46 hL) ?_
    refine ex_step (pc' := 29) dX12_term_28 rfl ?_
    refine ex_geti dX12_term_29 wf_RX12_270 (ly_a420 hL) rfl ?_
    refine ex_step (pc' := 33) dX12_term_32 rfl ?_
    refine ex_geti dX12_term_33 wf_RX12_273 (ly_a420 hL) rfl ?_
    obtain ⟨hv, h⟩ := h
    refine ex_iastN dX12_term_36 (ly_a451 hL) hv (fun I2 eI2 => ?_)
    have h := h I2 eI2
    refine ex_step (pc' := 38) dX12_term_37 rfl ?_
    refine ex_step (pc' := 39) dX12_term_38 rfl ?_
    refine ex_geti dX12_term_39 wf_RX12_270 (ly_a420 hL) rfl ?_
    refine ex_step (pc' := 43) (st' := [.int 1, .int (I2 420 41), .ref 420]) dX12_term_42 rfl ?_
    refine ex_step (pc' := 44) dX12_term_43 rfl ?_
    refine ex_putiN dX12_term_44 (wp_RX12_270 _) (ly_a420 hL) rfl ⟨rfl, rfl⟩ (fun I3 eI3 => ?_)
    have h := h I3 eI3
    rw [h]; exact ex_ret (v := none) ⟨dX12_term_47, rfl⟩
  · have h := h.2 (Classical.not_not.mp c)
    refine ex_step (pc' := 21) dX12_term_20 rfl ?_
    obtain ⟨I4, hc, h⟩ := h
    refine ex_callV (as := []) (st := []) (ci := 12) dX12_term_21 zmX12_expression zl_RX12_322 ziX12_expression zvX12_expression (by decide) (ly_a420 hL) rfl (Nat.le_of_ble_eq_true rfl) (Nat.le_of_ble_eq_true rfl) hc ?_
    refine ex_step (pc' := 25) dX12_term_24 rfl ?_
    refine ex_getr dX12_term_25 wf_RX12_110 (ly_a420 hL) rfl (ly_r420_46 hL) ?_
    refine ex_step (pc' := 29) dX12_term_28 rfl ?_
    refine ex_geti dX12_term_29 wf_RX12_270 (ly_a420 hL) rfl ?_
    refine ex_step (pc' := 33) dX12_term_32 rfl ?_
    refine ex_geti dX12_term_33 wf_RX12_273 (ly_a420 hL) rfl ?_
    obtain ⟨hv, h⟩ := h
    refine ex_iastN dX12_term_36 (ly_a451 hL) hv (fun I5 eI5 => ?_)
    have h := h I5 eI5
    refine ex_step (pc' := 38) dX12_term_37 rfl ?_
    refine ex_step (pc' := 39) dX12_term_38 rfl ?_
    refine ex_geti dX12_term_39 wf_RX12_270 (ly_a420 hL) rfl ?_
    refine ex_step (pc' := 43) (st' := [.int 1, .int (I5 420 41), .ref 420]) dX12_term_42 rfl ?_
    refine ex_step (pc' := 44) dX12_term_43 rfl ?_
    refine ex_putiN dX12_term_44 (wp_RX12_270 _) (ly_a420 hL) rfl ⟨rfl, rfl⟩ (fun I6 eI6 => ?_)
    have h := h I6 eI6
    rw [h]; exact ex_ret (v := none) ⟨dX12_term_47, rfl⟩
set_option maxHeartbeats 4000000 in
theorem BX12_emit_0 {d : Nat} {Z : zZ} {I : zI} {J : zJ} {o : zO} {t u : Nat} (x1 : Int32) (x2 : Int32) (hL : zLY Z t u)  (h : (vp_in (I 420 47) 840 ∧ (∀ I1 : zI, I1 = zu I 452 (I 420 47).toNatClampNeg x1 → (vp_in (I1 420 47) 840 ∧ (∀ I2 : zI, I2 = zu I1 453 (I1 420 47).toNatClampNeg x2 → (∀ I3 : zI, I3 = zu I2 420 47 ((I2 420 47) + 1) → o = (none, Z, I3, J))))))) : zE d kX12_emit 0 [some (.ref 420), some (.int x1), some (.int x2)] [] Z I J o := by
  refine ex_step (pc' := 1) dX12_emit_0 rfl ?_
  refine ex_getr dX12_emit_1 wf_RX12_113 (ly_a420 hL) rfl (ly_r420_48 hL) ?_
  refine ex_step (pc' := 5) dX12_emit_4 rfl ?_
  refine ex_geti dX12_emit_5 wf_RX12_273 (ly_a420 hL) rfl ?_
  refine ex_step (pc' := 9) dX12_emit_8 rfl ?_
  obtain ⟨hv, h⟩ := h
  refine ex_iastN dX12_emit_9 (ly_a452 hL) hv (fun I1 eI1 => ?_)
  have h := h I1 eI1
  refine ex_step (pc' := 11) dX12_emit_10 rfl ?_
  refine ex_getr dX12_emit_11 wf_RX12_116 (ly_a420 hL) rfl (ly_r420_49 hL) ?_
  refine ex_step (pc' := 15) dX12_emit_14 rfl ?_
  refine ex_geti dX12_emit_15 wf_RX12_273 (ly_a420 hL) rfl ?_
  refine ex_step (pc' := 19) dX12_emit_18 rfl ?_
  obtain ⟨hv, h⟩ := h
  refine ex_iastN dX12_emit_19 (ly_a453 hL) hv (fun I2 eI2 => ?_)
  have h := h I2 eI2
  refine ex_step (pc' := 21) dX12_emit_20 rfl ?_
  refine ex_step (pc' := 22) dX12_emit_21 rfl ?_
  refine ex_geti dX12_emit_22 wf_RX12_273 (ly_a420 hL) rfl ?_
  refine ex_step (pc' := 26) (st' := [.int 1, .int (I2 420 47), .ref 420]) dX12_emit_25 rfl ?_
  refine ex_step (pc' := 27) dX12_emit_26 rfl ?_
  refine ex_putiN dX12_emit_27 (wp_RX12_273 _) (ly_a420 hL) rfl ⟨rfl, rfl⟩ (fun I3 eI3 => ?_)
  have h := h I3 eI3
  rw [h]; exact ex_ret (v := none) ⟨dX12_emit_30, rfl⟩
set_option maxHeartbeats 4000000 in
theorem BX12_comesOut_0 {d : Nat} {Z : zZ} {I : zI} {J : zJ} {o : zO} {t u : Nat} (x1 : Int32) (hL : zLY Z t u)  (h : (((I 420 51) ≤ 0 → o = (none, Z, I, J)) ∧ (¬ (I 420 51) ≤ 0 → (vp_in ((I 420 51) - 1) 64 ∧ (∀ y1 : Int32, y1 = (I 454 ((I 420 51) - 1).toNatClampNeg) → ((y1 = 6 → o = (none, Z, I, J)) ∧ (¬ y1 = 6 → ((x1 = 0 → (∀ I2 : zI, I2 = zu I 420 51 ((I 420 51) - 1) → ((¬ y1 = 8 → ((¬ y1 = 9 → ((¬ y1 = 10 → (∃ (I3 : zI), zE d kX12_emit 0 [some (.ref 420), some (.int 5), some (.int 0)] [] Z I2 J (none, Z, I3, J) ∧ zE (d + 1) kX12_comesOut 0 [some (.ref 420), some (.int x1), none] [] Z I3 J o)) ∧ (y1 = 10 → (∃ (I4 : zI), zE d kX12_emit 0 [some (.ref 420), some (.int 4), some (.int 0)] [] Z I2 J (none, Z, I4, J) ∧ zE (d + 1) kX12_comesOut 0 [some (.ref 420), some (.int x1), none] [] Z I4 J o)))) ∧ (y1 = 9 → (∃ (I5 : zI), zE d kX12_emit 0 [some (.ref 420), some (.int 3), some (.int 0)] [] Z I2 J (none, Z, I5, J) ∧ zE (d + 1) kX12_comesOut 0 [some (.ref 420), some (.int x1), none] [] Z I5 J o)))) ∧ (y1 = 8 → (∃ (I6 : zI), zE d kX12_emit 0 [some (.ref 420), some (.int 2), some (.int 0)] [] Z I2 J (none, Z, I6, J) ∧ zE (d + 1) kX12_comesOut 0 [some (.ref 420), some (.int x1), none] [] Z I6 J o))))) ∧ (¬ x1 = 0 → ((y1 = 8 → o = (none, Z, I, J)) ∧ (¬ y1 = 8 → ((¬ y1 = 9 → (∀ I7 : zI, I7 = zu I 420 51 ((I 420 51) - 1) → ((¬ y1 = 8 → ((¬ y1 = 9 → ((¬ y1 = 10 → (∃ (I8 : zI), zE d kX12_emit 0 [some (.ref 420), some (.int 5), some (.int 0)] [] Z I7 J (none, Z, I8, J) ∧ zE (d + 1) kX12_comesOut 0 [some (.ref 420), some (.int x1), none] [] Z I8 J o)) ∧ (y1 = 10 → (∃ (I9 : zI), zE d kX12_emit 0 [some (.ref 420), some (.int 4), some (.int 0)] [] Z I7 J (none, Z, I9, J) ∧ zE (d + 1) kX12_comesOut 0 [some (.ref 420), some (.int x1), none] [] Z I9 J o)))) ∧ (y1 = 9 → (∃ (I10 : zI), zE d kX12_emit 0 [some (.ref 420), some (.int 3), some (.int 0)] [] Z I7 J (none, Z, I10, J) ∧ zE (d + 1) kX12_comesOut 0 [some (.ref 420), some (.int x1), none] [] Z I10 J o)))) ∧ (y1 = 8 → (∃ (I11 : zI), zE d kX12_emit 0 [some (.ref 420), some (.int 2), some (.int 0)] [] Z I7 J (none, Z, I11, J) ∧ zE (d + 1) kX12_comesOut 0 [some (.ref 420), some (.int x1), none] [] Z I11 J o))))) ∧ (y1 = 9 → o = (none, Z, I, J)))))))))))))) : zE (d + 1) kX12_comesOut 0 [some (.ref 420), some (.int x1), none] [] Z I J o := by
  refine ex_step (pc' := 1) dX12_comesOut_0 rfl ?_
  refine ex_geti dX12_comesOut_1 wf_RX12_328 (ly_a420 hL) rfl ?_
  refine ex_if (pc' := 91) dX12_comesOut_4 (by decide) (fun c => ?_) (fun c => ?_)
  · have h := h.1 c
    rw [h]; exact ex_ret (v := none) ⟨dX12_comesOut_91, rfl⟩
  · have h := h.2 c
    refine ex_step (pc' := 8) dX12_comesOut_7 rfl ?_
    refine ex_getr dX12_comesOut_8 wf_RX12_119 (ly_a420 hL) rfl (ly_r420_50 hL) ?_
    refine ex_step (pc' := 12) dX12_comesOut_11 rfl ?_
    refine ex_geti dX12_comesOut_12 wf_RX12_328 (ly_a420 hL) rfl ?_
    refine ex_step (pc' := 16) (st' := [.int 1, .int (I 420 51), .ref 454]) dX12_comesOut_15 rfl ?_
    refine ex_step (pc' := 17) dX12_comesOut_16 rfl ?_
    obtain ⟨hv, h⟩ := h
    refine ex_iald dX12_comesOut_17 (Or.inl (ly_a454 hL)) hv ?_
    refine ex_topi (fun y1 ey1 => ?_)
    have h := h y1 ey1
    refine ex_step (pc' := 19) (ls' := [some (.ref 420), some (.int x1), some (.int y1)]) dX12_comesOut_18 rfl ?_
    refine ex_step (pc' := 20) dX12_comesOut_19 rfl ?_
    refine ex_step (pc' := 22) (st' := [.int 6, .int y1]) dX12_comesOut_20 rfl ?_
    refine ex_icmp (pc' := 41) dX12_comesOut_22 (by decide) (fun c => ?_) (fun c => ?_)
    · have h := h.1 c
      rw [h]; exact ex_ret (v := none) ⟨dX12_comesOut_41, rfl⟩
    · have h := h.2 c
      refine ex_step (pc' := 26) dX12_comesOut_25 rfl ?_
      refine ex_if (pc' := 42) dX12_comesOut_26 (by decide) (fun c => ?_) (fun c => ?_)
      · have h := h.1 c
        refine ex_step (pc' := 43) dX12_comesOut_42 rfl ?_
        refine ex_step (pc' := 44) dX12_comesOut_43 rfl ?_
        refine ex_geti dX12_comesOut_44 wf_RX12_328 (ly_a420 hL) rfl ?_
        refine ex_step (pc' := 48) (st' := [.int 1, .int (I 420 51), .ref 420]) dX12_comesOut_47 rfl ?_
        refine ex_step (pc' := 49) dX12_comesOut_48 rfl ?_
        refine ex_putiN dX12_comesOut_49 (wp_RX12_328 _) (ly_a420 hL) rfl ⟨rfl, rfl⟩ (fun I2 eI2 => ?_)
        have h := h I2 eI2
        refine ex_step (pc' := 53) dX12_comesOut_52 rfl ?_
        refine ex_step (pc' := 54) dX12_comesOut_53 rfl ?_
        refine ex_step (pc' := 56) (st' := [.int 8, .int y1, .ref 420]) dX12_comesOut_54 rfl ?_
        refine ex_icmp (pc' := 63) dX12_comesOut_56 (by decide) (fun c => ?_) (fun c => ?_)
        · have h := h.1 c
          refine ex_step (pc' := 64) dX12_comesOut_63 rfl ?_
          refine ex_step (pc' := 66) (st' := [.int 9, .int y1, .ref 420]) dX12_comesOut_64 rfl ?_
          refine ex_icmp (pc' := 73) dX12_comesOut_66 (by decide) (fun c => ?_) (fun c => ?_)
          · have h := h.1 c
            refine ex_step (pc' := 74) dX12_comesOut_73 rfl ?_
            refine ex_step (pc' := 76) (st' := [.int 10, .int y1, .ref 420]) dX12_comesOut_74 rfl ?_
            refine ex_icmp (pc' := 83) dX12_comesOut_76 (by decide) (fun c => ?_) (fun c => ?_)
            · have h := h.1 c
              refine ex_step (pc' := 84) (st' := [.int 5, .ref 420]) dX12_comesOut_83 rfl ?_
              refine ex_step (pc' := 85) (st' := [.int 0, .int 5, .ref 420]) dX12_comesOut_84 rfl ?_
              obtain ⟨I3, hc, h⟩ := h
              refine ex_callV (as := [.int 5, .int 0]) (st := []) (ci := 12) dX12_comesOut_85 zmX12_emit zl_RX12_331 ziX12_emit zvX12_emit (by decide) (ly_a420 hL) rfl (Nat.le_of_ble_eq_true rfl) (Nat.le_of_ble_eq_true rfl) hc ?_
              refine ex_step (pc' := 0) dX12_comesOut_88 rfl ?_
              exact ex_less (ls' := [some (.ref 420), some (.int x1), none]) ⟨rfl, ⟨rfl, trivial⟩⟩ h
            · have h := h.2 (Classical.not_not.mp c)
              refine ex_step (pc' := 80) (st' := [.int 4, .ref 420]) dX12_comesOut_79 rfl ?_
              refine ex_step (pc' := 84) dX12_comesOut_80 rfl ?_
              refine ex_step (pc' := 85) (st' := [.int 0, .int 4, .ref 420]) dX12_comesOut_84 rfl ?_
              obtain ⟨I4, hc, h⟩ := h
              refine ex_callV (as := [.int 4, .int 0]) (st := []) (ci := 12) dX12_comesOut_85 zmX12_emit zl_RX12_331 ziX12_emit zvX12_emit (by decide) (ly_a420 hL) rfl (Nat.le_of_ble_eq_true rfl) (Nat.le_of_ble_eq_true rfl) hc ?_
              refine ex_step (pc' := 0) dX12_comesOut_88 rfl ?_
              exact ex_less (ls' := [some (.ref 420), some (.int x1), none]) ⟨rfl, ⟨rfl, trivial⟩⟩ h
          · have h := h.2 (Classical.not_not.mp c)
            refine ex_step (pc' := 70) (st' := [.int 3, .ref 420]) dX12_comesOut_69 rfl ?_
            refine ex_step (pc' := 84) dX12_comesOut_70 rfl ?_
            refine ex_step (pc' := 85) (st' := [.int 0, .int 3, .ref 420]) dX12_comesOut_84 rfl ?_
            obtain ⟨I5, hc, h⟩ := h
            refine ex_callV (as := [.int 3, .int 0]) (st := []) (ci := 12) dX12_comesOut_85 zmX12_emit zl_RX12_331 ziX12_emit zvX12_emit (by decide) (ly_a420 hL) rfl (Nat.le_of_ble_eq_true rfl) (Nat.le_of_ble_eq_true rfl) hc ?_
            refine ex_step (pc' := 0) dX12_comesOut_88 rfl ?_
            exact ex_less (ls' := [some (.ref 420), some (.int x1), none]) ⟨rfl, ⟨rfl, trivial⟩⟩ h
        · have h := h.2 (Classical.not_not.mp c)
          refine ex_step (pc' := 60) (st' := [.int 2, .ref 420]) dX12_comesOut_59 rfl ?_
          refine ex_step (pc' := 84) dX12_comesOut_60 rfl ?_
          refine ex_step (pc' := 85) (st' := [.int 0, .int 2, .ref 420]) dX12_comesOut_84 rfl ?_
          obtain ⟨I6, hc, h⟩ := h
          refine ex_callV (as := [.int 2, .int 0]) (st := []) (ci := 12) dX12_comesOut_85 zmX12_emit zl_RX12_331 ziX12_emit zvX12_emit (by decide) (ly_a420 hL) rfl (Nat.le_of_ble_eq_true rfl) (Nat.le_of_ble_eq_true rfl) hc ?_
          refine ex_step (pc' := 0) dX12_comesOut_88 rfl ?_
          exact ex_less (ls' := [some (.ref 420), some (.int x1), none]) ⟨rfl, ⟨rfl, trivial⟩⟩ h
      · have h := h.2 c
        refine ex_step (pc' := 30) dX12_comesOut_29 rfl ?_
        refine ex_step (pc' := 32) (st' := [.int 8, .int y1]) dX12_comesOut_30 rfl ?_
        refine ex_icmp (pc' := 41) dX12_comesOut_32 (by decide) (fun c => ?_) (fun c => ?_)
        · have h := h.1 c
          rw [h]; exact ex_ret (v := none) ⟨dX12_comesOut_41, rfl⟩
        · have h := h.2 c
          refine ex_step (pc' := 36) dX12_comesOut_35 rfl ?_
          refine ex_step (pc' := 38) (st' := [.int 9, .int y1]) dX12_comesOut_36 rfl ?_
          refine ex_icmp (pc' := 42) dX12_comesOut_38 (by decide) (fun c => ?_) (fun c => ?_)
          · have h := h.1 c
            refine ex_step (pc' := 43) dX12_comesOut_42 rfl ?_
            refine ex_step (pc' := 44) dX12_comesOut_43 rfl ?_
            refine ex_geti dX12_comesOut_44 wf_RX12_328 (ly_a420 hL) rfl ?_
            refine ex_step (pc' := 48) (st' := [.int 1, .int (I 420 51), .ref 420]) dX12_comesOut_47 rfl ?_
            refine ex_step (pc' := 49) dX12_comesOut_48 rfl ?_
            refine ex_putiN dX12_comesOut_49 (wp_RX12_328 _) (ly_a420 hL) rfl ⟨rfl, rfl⟩ (fun I7 eI7 => ?_)
            have h := h I7 eI7
            refine ex_step (pc' := 53) dX12_comesOut_52 rfl ?_
            refine ex_step (pc' := 54) dX12_comesOut_53 rfl ?_
            refine ex_step (pc' := 56) (st' := [.int 8, .int y1, .ref 420]) dX12_comesOut_54 rfl ?_
            refine ex_icmp (pc' := 63) dX12_comesOut_56 (by decide) (fun c => ?_) (fun c => ?_)
            · have h := h.1 c
              refine ex_step (pc' := 64) dX12_comesOut_63 rfl ?_
              refine ex_step (pc' := 66) (st' := [.int 9, .int y1, .ref 420]) dX12_comesOut_64 rfl ?_
              refine ex_icmp (pc' := 73) dX12_comesOut_66 (by decide) (fun c => ?_) (fun c => ?_)
              · have h := h.1 c
                refine ex_step (pc' := 74) dX12_comesOut_73 rfl ?_
                refine ex_step (pc' := 76) (st' := [.int 10, .int y1, .ref 420]) dX12_comesOut_74 rfl ?_
                refine ex_icmp (pc' := 83) dX12_comesOut_76 (by decide) (fun c => ?_) (fun c => ?_)
                · have h := h.1 c
                  refine ex_step (pc' := 84) (st' := [.int 5, .ref 420]) dX12_comesOut_83 rfl ?_
                  refine ex_step (pc' := 85) (st' := [.int 0, .int 5, .ref 420]) dX12_comesOut_84 rfl ?_
                  obtain ⟨I8, hc, h⟩ := h
                  refine ex_callV (as := [.int 5, .int 0]) (st := []) (ci := 12) dX12_comesOut_85 zmX12_emit zl_RX12_331 ziX12_emit zvX12_emit (by decide) (ly_a420 hL) rfl (Nat.le_of_ble_eq_true rfl) (Nat.le_of_ble_eq_true rfl) hc ?_
                  refine ex_step (pc' := 0) dX12_comesOut_88 rfl ?_
                  exact ex_less (ls' := [some (.ref 420), some (.int x1), none]) ⟨rfl, ⟨rfl, trivial⟩⟩ h
                · have h := h.2 (Classical.not_not.mp c)
                  refine ex_step (pc' := 80) (st' := [.int 4, .ref 420]) dX12_comesOut_79 rfl ?_
                  refine ex_step (pc' := 84) dX12_comesOut_80 rfl ?_
                  refine ex_step (pc' := 85) (st' := [.int 0, .int 4, .ref 420]) dX12_comesOut_84 rfl ?_
                  obtain ⟨I9, hc, h⟩ := h
                  refine ex_callV (as := [.int 4, .int 0]) (st := []) (ci := 12) dX12_comesOut_85 zmX12_emit zl_RX12_331 ziX12_emit zvX12_emit (by decide) (ly_a420 hL) rfl (Nat.le_of_ble_eq_true rfl) (Nat.le_of_ble_eq_true rfl) hc ?_
                  refine ex_step (pc' := 0) dX12_comesOut_88 rfl ?_
                  exact ex_less (ls' := [some (.ref 420), some (.int x1), none]) ⟨rfl, ⟨rfl, trivial⟩⟩ h
              · have h := h.2 (Classical.not_not.mp c)
                refine ex_step (pc' := 70) (st' := [.int 3, .ref 420]) dX12_comesOut_69 rfl ?_
                refine ex_step (pc' := 84) dX12_comesOut_70 rfl ?_
                refine ex_step (pc' := 85) (st' := [.int 0, .int 3, .ref 420]) dX12_comesOut_84 rfl ?_
                obtain ⟨I10, hc, h⟩ := h
                refine ex_callV (as := [.int 3, .int 0]) (st := []) (ci := 12) dX12_comesOut_85 zmX12_emit zl_RX12_331 ziX12_emit zvX12_emit (by decide) (ly_a420 hL) rfl (Nat.le_of_ble_eq_true rfl) (Nat.le_of_ble_eq_true rfl) hc ?_
                refine ex_step (pc' := 0) dX12_comesOut_88 rfl ?_
                exact ex_less (ls' := [some (.ref 420), some (.int x1), none]) ⟨rfl, ⟨rfl, trivial⟩⟩ h
            · have h := h.2 (Classical.not_not.mp c)
              refine ex_step (pc' := 60) (st' := [.int 2, .ref 420]) dX12_comesOut_59 rfl ?_
              refine ex_step (pc' := 84) dX12_comesOut_60 rfl ?_
              refine ex_step (pc' := 85) (st' := [.int 0, .int 2, .ref 420]) dX12_comesOut_84 rfl ?_
              obtain ⟨I11, hc, h⟩ := h
              refine ex_callV (as := [.int 2, .int 0]) (st := []) (ci := 12) dX12_comesOut_85 zmX12_emit zl_RX12_331 ziX12_emit zvX12_emit (by decide) (ly_a420 hL) rfl (Nat.le_of_ble_eq_true rfl) (Nat.le_of_ble_eq_true rfl) hc ?_
              refine ex_step (pc' := 0) dX12_comesOut_88 rfl ?_
              exact ex_less (ls' := [some (.ref 420), some (.int x1), none]) ⟨rfl, ⟨rfl, trivial⟩⟩ h
          · have h := h.2 (Classical.not_not.mp c)
            rw [h]; exact ex_ret (v := none) ⟨dX12_comesOut_41, rfl⟩
set_option maxHeartbeats 4000000 in
theorem BX12_expression_0 {d : Nat} {Z : zZ} {I : zI} {J : zJ} {o : zO} {t u : Nat}  (hL : zLY Z t u)  (h : (∀ I1 : zI, I1 = zu I 420 51 0 → zE (d + 3) kX12_expression 12 [some (.ref 420), some (.int (I1 420 12)), some (.int 1)] [] Z I1 J o)) : zE (d + 3) kX12_expression 0 [some (.ref 420), none, none] [] Z I J o := by
  refine ex_step (pc' := 1) dX12_expression_0 rfl ?_
  refine ex_step (pc' := 2) (st' := [.int 0, .ref 420]) dX12_expression_1 rfl ?_
  refine ex_putiN dX12_expression_2 (wp_RX12_328 _) (ly_a420 hL) rfl ⟨rfl, rfl⟩ (fun I1 eI1 => ?_)
  have h := h I1 eI1
  refine ex_step (pc' := 6) dX12_expression_5 rfl ?_
  refine ex_geti dX12_expression_6 wf_RX12_255 (ly_a420 hL) rfl ?_
  refine ex_step (pc' := 10) (ls' := [some (.ref 420), some (.int (I1 420 12)), none]) dX12_expression_9 rfl ?_
  refine ex_step (pc' := 11) (st' := [.int 1]) dX12_expression_10 rfl ?_
  refine ex_step (pc' := 12) (ls' := [some (.ref 420), some (.int (I1 420 12)), some (.int 1)]) dX12_expression_11 rfl ?_
  exact h
set_option maxHeartbeats 4000000 in
theorem BX12_expression_12 {d : Nat} {Z : zZ} {I : zI} {J : zJ} {o : zO} {t u : Nat} (x1 : Int32) (x2 : Int32) (hL : zLY Z t u)  (h : ((x2 = 0 → o = (none, Z, I, J)) ∧ (¬ x2 = 0 → ((¬ (I 420 13) = 0 → o = (none, Z, I, J)) ∧ ((I 420 13) = 0 → zE (d + 3) kX12_expression 23 [some (.ref 420), some (.int x1), none] [] Z I J o))))) : zE (d + 3) kX12_expression 12 [some (.ref 420), some (.int x1), some (.int x2)] [] Z I J o := by
  refine ex_step (pc' := 13) dX12_expression_12 rfl ?_
  refine ex_if (pc' := 272) dX12_expression_13 (by decide) (fun c => ?_) (fun c => ?_)
  · have h := h.1 c
    rw [h]; exact ex_ret (v := none) ⟨dX12_expression_272, rfl⟩
  · have h := h.2 c
    refine ex_step (pc' := 17) dX12_expression_16 rfl ?_
    refine ex_geti dX12_expression_17 wf_RX12_228 (ly_a420 hL) rfl ?_
    refine ex_if (pc' := 272) dX12_expression_20 (by decide) (fun c => ?_) (fun c => ?_)
    · have h := h.1 c
      rw [h]; exact ex_ret (v := none) ⟨dX12_expression_272, rfl⟩
    · have h := h.2 (Classical.not_not.mp c)
      exact ex_less (ls' := [some (.ref 420), some (.int x1), none]) ⟨rfl, ⟨rfl, trivial⟩⟩ h
set_option maxHeartbeats 4000000 in
theorem BX12_expression_23 {d : Nat} {Z : zZ} {I : zI} {J : zJ} {o : zO} {t u : Nat} (x1 : Int32) (hL : zLY Z t u)  (h : (∃ (v1 : Int32), zE (d + 2) kX12_is 0 [some (.ref 420), some (.int 6)] [] Z I J (some (.int v1), Z, I, J) ∧ ((v1 = 0 → (∃ (I2 : zI), zE (d + 2) kX12_unit 0 [some (.ref 420)] [] Z I J (none, Z, I2, J) ∧ (((I2 420 13) ≤ 0 → zE (d + 3) kX12_expression 96 [some (.ref 420), some (.int x1), none] [] Z I2 J o) ∧ (¬ (I2 420 13) ≤ 0 → o = (none, Z, I2, J))))) ∧ (¬ v1 = 0 → ((¬ (I 420 12) = 6 → zE (d + 3) kX12_expression 46 [some (.ref 420), some (.int x1), none] [] Z I J o) ∧ ((I 420 12) = 6 → (∃ (I3 : zI), zE (d + 2) kX12_fail 0 [some (.ref 420), some (.int 2)] [] Z I J (none, Z, I3, J) ∧ zE (d + 3) kX12_expression 46 [some (.ref 420), some (.int x1), none] [] Z I3 J o))))))) : zE (d + 3) kX12_expression 23 [some (.ref 420), some (.int x1), none] [] Z I J o := by
  refine ex_step (pc' := 24) dX12_expression_23 rfl ?_
  refine ex_step (pc' := 26) (st' := [.int 6, .ref 420]) dX12_expression_24 rfl ?_
  obtain ⟨v1, hc, h⟩ := h
  refine ex_callV (as := [.int 6]) (st := []) (ci := 12) dX12_expression_26 zmX12_is zl_RX12_246 ziX12_is zvX12_is (by decide) (ly_a420 hL) rfl (Nat.le_of_ble_eq_true rfl) (Nat.le_of_ble_eq_true rfl) hc ?_
  refine ex_if (pc' := 84) dX12_expression_29 (by decide) (fun c => ?_) (fun c => ?_)
  · have h := h.1 c
    refine ex_step (pc' := 85) dX12_expression_84 rfl ?_
    obtain ⟨I2, hc, h⟩ := h
    refine ex_callV (as := []) (st := []) (ci := 12) dX12_expression_85 zmX12_unit zl_RX12_334 ziX12_unit zvX12_unit (by decide) (ly_a420 hL) rfl (Nat.le_of_ble_eq_true rfl) (Nat.le_of_ble_eq_true rfl) hc ?_
    refine ex_step (pc' := 89) dX12_expression_88 rfl ?_
    refine ex_geti dX12_expression_89 wf_RX12_228 (ly_a420 hL) rfl ?_
    refine ex_if (pc' := 96) dX12_expression_92 (by decide) (fun c => ?_) (fun c => ?_)
    · have h := h.1 c
      exact h
    · have h := h.2 c
      rw [h]; exact ex_ret (v := none) ⟨dX12_expression_95, rfl⟩
  · have h := h.2 c
    refine ex_step (pc' := 33) dX12_expression_32 rfl ?_
    refine ex_geti dX12_expression_33 wf_RX12_255 (ly_a420 hL) rfl ?_
    refine ex_step (pc' := 38) (st' := [.int 6, .int (I 420 12)]) dX12_expression_36 rfl ?_
    refine ex_icmp (pc' := 46) dX12_expression_38 (by decide) (fun c => ?_) (fun c => ?_)
    · have h := h.1 c
      exact h
    · have h := h.2 (Classical.not_not.mp c)
      refine ex_step (pc' := 42) dX12_expression_41 rfl ?_
      refine ex_step (pc' := 43) (st' := [.int 2, .ref 420]) dX12_expression_42 rfl ?_
      obtain ⟨I3, hc, h⟩ := h
      refine ex_callV (as := [.int 2]) (st := []) (ci := 12) dX12_expression_43 zmX12_fail zl_RX12_243 ziX12_fail zvX12_fail (by decide) (ly_a420 hL) rfl (Nat.le_of_ble_eq_true rfl) (Nat.le_of_ble_eq_true rfl) hc ?_
      exact h
set_option maxHeartbeats 4000000 in
theorem BX12_expression_46 {d : Nat} {Z : zZ} {I : zI} {J : zJ} {o : zO} {t u : Nat} (x1 : Int32) (hL : zLY Z t u)  (h : (∀ I1 : zI, I1 = zu I 420 12 ((I 420 12) + 1) → (∃ (I2 : zI), zE (d + 2) kX12_goesOn 0 [some (.ref 420)] [] Z I1 J (none, Z, I2, J) ∧ (vp_in (I2 420 51) 64 ∧ (∀ I3 : zI, I3 = zu I2 454 (I2 420 51).toNatClampNeg 6 → (∀ I4 : zI, I4 = zu I3 420 51 ((I3 420 51) + 1) → zE (d + 3) kX12_expression 23 [some (.ref 420), some (.int x1), none] [] Z I4 J o)))))) : zE (d + 3) kX12_expression 46 [some (.ref 420), some (.int x1), none] [] Z I J o := by
  refine ex_step (pc' := 47) dX12_expression_46 rfl ?_
  refine ex_step (pc' := 48) dX12_expression_47 rfl ?_
  refine ex_geti dX12_expression_48 wf_RX12_255 (ly_a420 hL) rfl ?_
  refine ex_step (pc' := 52) (st' := [.int 1, .int (I 420 12), .ref 420]) dX12_expression_51 rfl ?_
  refine ex_step (pc' := 53) dX12_expression_52 rfl ?_
  refine ex_putiN dX12_expression_53 (wp_RX12_255 _) (ly_a420 hL) rfl ⟨rfl, rfl⟩ (fun I1 eI1 => ?_)
  have h := h I1 eI1
  refine ex_step (pc' := 57) dX12_expression_56 rfl ?_
  obtain ⟨I2, hc, h⟩ := h
  refine ex_callV (as := []) (st := []) (ci := 12) dX12_expression_57 zmX12_goesOn zl_RX12_249 ziX12_goesOn zvX12_goesOn (by decide) (ly_a420 hL) rfl (Nat.le_of_ble_eq_true rfl) (Nat.le_of_ble_eq_true rfl) hc ?_
  refine ex_step (pc' := 61) dX12_expression_60 rfl ?_
  refine ex_getr dX12_expression_61 wf_RX12_119 (ly_a420 hL) rfl (ly_r420_50 hL) ?_
  refine ex_step (pc' := 65) dX12_expression_64 rfl ?_
  refine ex_geti dX12_expression_65 wf_RX12_328 (ly_a420 hL) rfl ?_
  refine ex_step (pc' := 70) (st' := [.int 6, .int (I2 420 51), .ref 454]) dX12_expression_68 rfl ?_
  obtain ⟨hv, h⟩ := h
  refine ex_iastN dX12_expression_70 (ly_a454 hL) hv (fun I3 eI3 => ?_)
  have h := h I3 eI3
  refine ex_step (pc' := 72) dX12_expression_71 rfl ?_
  refine ex_step (pc' := 73) dX12_expression_72 rfl ?_
  refine ex_geti dX12_expression_73 wf_RX12_328 (ly_a420 hL) rfl ?_
  refine ex_step (pc' := 77) (st' := [.int 1, .int (I3 420 51), .ref 420]) dX12_expression_76 rfl ?_
  refine ex_step (pc' := 78) dX12_expression_77 rfl ?_
  refine ex_putiN dX12_expression_78 (wp_RX12_328 _) (ly_a420 hL) rfl ⟨rfl, rfl⟩ (fun I4 eI4 => ?_)
  have h := h I4 eI4
  refine ex_step (pc' := 23) dX12_expression_81 rfl ?_
  exact h
set_option maxHeartbeats 4000000 in
theorem BX12_expression_96 {d : Nat} {Z : zZ} {I : zI} {J : zJ} {o : zO} {t u : Nat} (x1 : Int32) (hL : zLY Z t u)  (h : (∃ (v1 : Int32), zE (d + 2) kX12_is 0 [some (.ref 420), some (.int 7)] [] Z I J (some (.int v1), Z, I, J) ∧ ((v1 = 0 → zE (d + 3) kX12_expression 145 [some (.ref 420), some (.int x1), none] [] Z I J o) ∧ (¬ v1 = 0 → (((I 420 12) ≤ x1 → zE (d + 3) kX12_expression 145 [some (.ref 420), some (.int x1), none] [] Z I J o) ∧ (¬ (I 420 12) ≤ x1 → (∃ (I2 : zI), zE (d + 2) kX12_comesOut 0 [some (.ref 420), some (.int 0), none] [] Z I J (none, Z, I2, J) ∧ (∀ I3 : zI, I3 = zu I2 420 51 ((I2 420 51) - 1) → (∀ I4 : zI, I4 = zu I3 420 12 ((I3 420 12) - 1) → (∃ (I5 : zI), zE (d + 2) kX12_goesOn 0 [some (.ref 420)] [] Z I4 J (none, Z, I5, J) ∧ zE (d + 3) kX12_expression 96 [some (.ref 420), some (.int x1), none] [] Z I5 J o)))))))))) : zE (d + 3) kX12_expression 96 [some (.ref 420), some (.int x1), none] [] Z I J o := by
  refine ex_step (pc' := 97) dX12_expression_96 rfl ?_
  refine ex_step (pc' := 99) (st' := [.int 7, .ref 420]) dX12_expression_97 rfl ?_
  obtain ⟨v1, hc, h⟩ := h
  refine ex_callV (as := [.int 7]) (st := []) (ci := 12) dX12_expression_99 zmX12_is zl_RX12_246 ziX12_is zvX12_is (by decide) (ly_a420 hL) rfl (Nat.le_of_ble_eq_true rfl) (Nat.le_of_ble_eq_true rfl) hc ?_
  refine ex_if (pc' := 145) dX12_expression_102 (by decide) (fun c => ?_) (fun c => ?_)
  · have h := h.1 c
    exact h
  · have h := h.2 c
    refine ex_step (pc' := 106) dX12_expression_105 rfl ?_
    refine ex_geti dX12_expression_106 wf_RX12_255 (ly_a420 hL) rfl ?_
    refine ex_step (pc' := 110) dX12_expression_109 rfl ?_
    refine ex_icmp (pc' := 145) dX12_expression_110 (by decide) (fun c => ?_) (fun c => ?_)
    · have h := h.1 c
      exact h
    · have h := h.2 c
      refine ex_step (pc' := 114) dX12_expression_113 rfl ?_
      refine ex_step (pc' := 115) (st' := [.int 0, .ref 420]) dX12_expression_114 rfl ?_
      obtain ⟨I2, hc, h⟩ := h
      refine ex_callV (as := [.int 0]) (st := []) (ci := 12) dX12_expression_115 zmX12_comesOut zl_RX12_337 ziX12_comesOut zvX12_comesOut (by decide) (ly_a420 hL) rfl (Nat.le_of_ble_eq_true rfl) (Nat.le_of_ble_eq_true rfl) hc ?_
      refine ex_step (pc' := 119) dX12_expression_118 rfl ?_
      refine ex_step (pc' := 120) dX12_expression_119 rfl ?_
      refine ex_geti dX12_expression_120 wf_RX12_328 (ly_a420 hL) rfl ?_
      refine ex_step (pc' := 124) (st' := [.int 1, .int (I2 420 51), .ref 420]) dX12_expression_123 rfl ?_
      refine ex_step (pc' := 125) dX12_expression_124 rfl ?_
      refine ex_putiN dX12_expression_125 (wp_RX12_328 _) (ly_a420 hL) rfl ⟨rfl, rfl⟩ (fun I3 eI3 => ?_)
      have h := h I3 eI3
      refine ex_step (pc' := 129) dX12_expression_128 rfl ?_
      refine ex_step (pc' := 130) dX12_expression_129 rfl ?_
      refine ex_geti dX12_expression_130 wf_RX12_255 (ly_a420 hL) rfl ?_
      refine ex_step (pc' := 134) (st' := [.int 1, .int (I3 420 12), .ref 420]) dX12_expression_133 rfl ?_
      refine ex_step (pc' := 135) dX12_expression_134 rfl ?_
      refine ex_putiN dX12_expression_135 (wp_RX12_255 _) (ly_a420 hL) rfl ⟨rfl, rfl⟩ (fun I4 eI4 => ?_)
      have h := h I4 eI4
      refine ex_step (pc' := 139) dX12_expression_138 rfl ?_
      obtain ⟨I5, hc, h⟩ := h
      refine ex_callV (as := []) (st := []) (ci := 12) dX12_expression_139 zmX12_goesOn zl_RX12_249 ziX12_goesOn zvX12_goesOn (by decide) (ly_a420 hL) rfl (Nat.le_of_ble_eq_true rfl) (Nat.le_of_ble_eq_true rfl) hc ?_
      refine ex_step (pc' := 96) dX12_expression_142 rfl ?_
      exact h
set_option maxHeartbeats 4000000 in
theorem BX12_expression_145 {d : Nat} {Z : zZ} {I : zI} {J : zJ} {o : zO} {t u : Nat} (x1 : Int32) (hL : zLY Z t u)  (h : (∃ (v1 : Int32), zE (d + 2) kX12_is 0 [some (.ref 420), some (.int 8)] [] Z I J (some (.int v1), Z, I, J) ∧ ((¬ v1 = 0 → zE (d + 3) kX12_expression 181 [some (.ref 420), some (.int x1), none] [] Z I J o) ∧ (v1 = 0 → (∃ (v2 : Int32), zE (d + 2) kX12_is 0 [some (.ref 420), some (.int 9)] [] Z I J (some (.int v2), Z, I, J) ∧ ((¬ v2 = 0 → zE (d + 3) kX12_expression 181 [some (.ref 420), some (.int x1), none] [] Z I J o) ∧ (v2 = 0 → (∃ (v3 : Int32), zE (d + 2) kX12_is 0 [some (.ref 420), some (.int 10)] [] Z I J (some (.int v3), Z, I, J) ∧ ((¬ v3 = 0 → zE (d + 3) kX12_expression 181 [some (.ref 420), some (.int x1), none] [] Z I J o) ∧ (v3 = 0 → (∃ (v4 : Int32), zE (d + 2) kX12_is 0 [some (.ref 420), some (.int 15)] [] Z I J (some (.int v4), Z, I, J) ∧ ((v4 = 0 → (((I 420 12) ≤ x1 → zE (d + 3) kX12_expression 204 [some (.ref 420), none, none] [] Z I J o) ∧ (¬ (I 420 12) ≤ x1 → (∃ (I5 : zI), zE (d + 2) kX12_fail 0 [some (.ref 420), some (.int 1)] [] Z I J (none, Z, I5, J) ∧ zE (d + 3) kX12_expression 204 [some (.ref 420), none, none] [] Z I5 J o)))) ∧ (¬ v4 = 0 → zE (d + 3) kX12_expression 181 [some (.ref 420), some (.int x1), none] [] Z I J o))))))))))))) : zE (d + 3) kX12_expression 145 [some (.ref 420), some (.int x1), none] [] Z I J o := by
  refine ex_step (pc' := 146) dX12_expression_145 rfl ?_
  refine ex_step (pc' := 148) (st' := [.int 8, .ref 420]) dX12_expression_146 rfl ?_
  obtain ⟨v1, hc, h⟩ := h
  refine ex_callV (as := [.int 8]) (st := []) (ci := 12) dX12_expression_148 zmX12_is zl_RX12_246 ziX12_is zvX12_is (by decide) (ly_a420 hL) rfl (Nat.le_of_ble_eq_true rfl) (Nat.le_of_ble_eq_true rfl) hc ?_
  refine ex_if (pc' := 181) dX12_expression_151 (by decide) (fun c => ?_) (fun c => ?_)
  · have h := h.1 c
    exact h
  · have h := h.2 (Classical.not_not.mp c)
    refine ex_step (pc' := 155) dX12_expression_154 rfl ?_
    refine ex_step (pc' := 157) (st' := [.int 9, .ref 420]) dX12_expression_155 rfl ?_
    obtain ⟨v2, hc, h⟩ := h
    refine ex_callV (as := [.int 9]) (st := []) (ci := 12) dX12_expression_157 zmX12_is zl_RX12_246 ziX12_is zvX12_is (by decide) (ly_a420 hL) rfl (Nat.le_of_ble_eq_true rfl) (Nat.le_of_ble_eq_true rfl) hc ?_
    refine ex_if (pc' := 181) dX12_expression_160 (by decide) (fun c => ?_) (fun c => ?_)
    · have h := h.1 c
      exact h
    · have h := h.2 (Classical.not_not.mp c)
      refine ex_step (pc' := 164) dX12_expression_163 rfl ?_
      refine ex_step (pc' := 166) (st' := [.int 10, .ref 420]) dX12_expression_164 rfl ?_
      obtain ⟨v3, hc, h⟩ := h
      refine ex_callV (as := [.int 10]) (st := []) (ci := 12) dX12_expression_166 zmX12_is zl_RX12_246 ziX12_is zvX12_is (by decide) (ly_a420 hL) rfl (Nat.le_of_ble_eq_true rfl) (Nat.le_of_ble_eq_true rfl) hc ?_
      refine ex_if (pc' := 181) dX12_expression_169 (by decide) (fun c => ?_) (fun c => ?_)
      · have h := h.1 c
        exact h
      · have h := h.2 (Classical.not_not.mp c)
        refine ex_step (pc' := 173) dX12_expression_172 rfl ?_
        refine ex_step (pc' := 175) (st' := [.int 15, .ref 420]) dX12_expression_173 rfl ?_
        obtain ⟨v4, hc, h⟩ := h
        refine ex_callV (as := [.int 15]) (st := []) (ci := 12) dX12_expression_175 zmX12_is zl_RX12_246 ziX12_is zvX12_is (by decide) (ly_a420 hL) rfl (Nat.le_of_ble_eq_true rfl) (Nat.le_of_ble_eq_true rfl) hc ?_
        refine ex_if (pc' := 185) dX12_expression_178 (by decide) (fun c => ?_) (fun c => ?_)
        · have h := h.1 c
          refine ex_step (pc' := 186) (st' := [.int 0]) dX12_expression_185 rfl ?_
          refine ex_step (pc' := 187) (ls' := [some (.ref 420), some (.int x1), some (.int 0)]) dX12_expression_186 rfl ?_
          refine ex_step (pc' := 188) dX12_expression_187 rfl ?_
          refine ex_if (pc' := 210) dX12_expression_188 (by decide) (fun c => ?_) (fun c => ?_)
          · exact absurd (show ¬ (0 : Int32) = 0 from c) (by decide)
          · skip
            refine ex_step (pc' := 192) dX12_expression_191 rfl ?_
            refine ex_geti dX12_expression_192 wf_RX12_255 (ly_a420 hL) rfl ?_
            refine ex_step (pc' := 196) dX12_expression_195 rfl ?_
            refine ex_icmp (pc' := 204) dX12_expression_196 (by decide) (fun c => ?_) (fun c => ?_)
            · have h := h.1 c
              exact ex_less (ls' := [some (.ref 420), none, none]) ⟨rfl, trivial⟩ h
            · have h := h.2 c
              refine ex_step (pc' := 200) dX12_expression_199 rfl ?_
              refine ex_step (pc' := 201) (st' := [.int 1, .ref 420]) dX12_expression_200 rfl ?_
              obtain ⟨I5, hc, h⟩ := h
              refine ex_callV (as := [.int 1]) (st := []) (ci := 12) dX12_expression_201 zmX12_fail zl_RX12_243 ziX12_fail zvX12_fail (by decide) (ly_a420 hL) rfl (Nat.le_of_ble_eq_true rfl) (Nat.le_of_ble_eq_true rfl) hc ?_
              exact ex_less (ls' := [some (.ref 420), none, none]) ⟨rfl, trivial⟩ h
        · have h := h.2 c
          exact h
set_option maxHeartbeats 4000000 in
theorem BX12_expression_181 {d : Nat} {Z : zZ} {I : zI} {J : zJ} {o : zO} {t u : Nat} (x1 : Int32) (hL : zLY Z t u)  (h : (∃ (v1 : Int32), zE (d + 2) kX12_is 0 [some (.ref 420), some (.int 10)] [] Z I J (some (.int v1), Z, I, J) ∧ ((¬ v1 = 0 → (∃ (I2 : zI), zE (d + 2) kX12_comesOut 0 [some (.ref 420), some (.int 1), none] [] Z I J (none, Z, I2, J) ∧ (vp_in (I2 420 11) 403 ∧ (vp_in (I2 420 51) 64 ∧ (∀ I3 : zI, I3 = zu I2 454 (I2 420 51).toNatClampNeg (I2 423 (I2 420 11).toNatClampNeg) → (∀ I4 : zI, I4 = zu I3 420 51 ((I3 420 51) + 1) → (∃ (I5 : zI), zE (d + 2) kX12_goesOn 0 [some (.ref 420)] [] Z I4 J (none, Z, I5, J) ∧ zE (d + 3) kX12_expression 12 [some (.ref 420), some (.int x1), some (.int 1)] [] Z I5 J o))))))) ∧ (v1 = 0 → (∃ (v6 : Int32), zE (d + 2) kX12_is 0 [some (.ref 420), some (.int 15)] [] Z I J (some (.int v6), Z, I, J) ∧ ((v6 = 0 → (∃ (I7 : zI), zE (d + 2) kX12_comesOut 0 [some (.ref 420), some (.int 0), none] [] Z I J (none, Z, I7, J) ∧ (vp_in (I7 420 11) 403 ∧ (vp_in (I7 420 51) 64 ∧ (∀ I8 : zI, I8 = zu I7 454 (I7 420 51).toNatClampNeg (I7 423 (I7 420 11).toNatClampNeg) → (∀ I9 : zI, I9 = zu I8 420 51 ((I8 420 51) + 1) → (∃ (I10 : zI), zE (d + 2) kX12_goesOn 0 [some (.ref 420)] [] Z I9 J (none, Z, I10, J) ∧ zE (d + 3) kX12_expression 12 [some (.ref 420), some (.int x1), some (.int 1)] [] Z I10 J o))))))) ∧ (¬ v6 = 0 → (∃ (I11 : zI), zE (d + 2) kX12_comesOut 0 [some (.ref 420), some (.int 1), none] [] Z I J (none, Z, I11, J) ∧ (vp_in (I11 420 11) 403 ∧ (vp_in (I11 420 51) 64 ∧ (∀ I12 : zI, I12 = zu I11 454 (I11 420 51).toNatClampNeg (I11 423 (I11 420 11).toNatClampNeg) → (∀ I13 : zI, I13 = zu I12 420 51 ((I12 420 51) + 1) → (∃ (I14 : zI), zE (d + 2) kX12_goesOn 0 [some (.ref 420)] [] Z I13 J (none, Z, I14, J) ∧ zE (d + 3) kX12_expression 12 [some (.ref 420), some (.int x1), some (.int 1)] [] Z I14 J o))))))))))))) : zE (d + 3) kX12_expression 181 [some (.ref 420), some (.int x1), none] [] Z I J o := by
  refine ex_step (pc' := 182) (st' := [.int 1]) dX12_expression_181 rfl ?_
  refine ex_step (pc' := 186) dX12_expression_182 rfl ?_
  refine ex_step (pc' := 187) (ls' := [some (.ref 420), some (.int x1), some (.int 1)]) dX12_expression_186 rfl ?_
  refine ex_step (pc' := 188) dX12_expression_187 rfl ?_
  refine ex_if (pc' := 210) dX12_expression_188 (by decide) (fun c => ?_) (fun c => ?_)
  · skip
    refine ex_step (pc' := 211) dX12_expression_210 rfl ?_
    refine ex_step (pc' := 212) dX12_expression_211 rfl ?_
    refine ex_step (pc' := 214) (st' := [.int 10, .ref 420, .ref 420]) dX12_expression_212 rfl ?_
    obtain ⟨v1, hc, h⟩ := h
    refine ex_callV (as := [.int 10]) (st := [.ref 420]) (ci := 12) dX12_expression_214 zmX12_is zl_RX12_246 ziX12_is zvX12_is (by decide) (ly_a420 hL) rfl (Nat.le_of_ble_eq_true rfl) (Nat.le_of_ble_eq_true rfl) hc ?_
    refine ex_if (pc' := 229) dX12_expression_217 (by decide) (fun c => ?_) (fun c => ?_)
    · have h := h.1 c
      refine ex_step (pc' := 230) (st' := [.int 1, .ref 420]) dX12_expression_229 rfl ?_
      refine ex_step (pc' := 234) dX12_expression_230 rfl ?_
      obtain ⟨I2, hc, h⟩ := h
      refine ex_callV (as := [.int 1]) (st := []) (ci := 12) dX12_expression_234 zmX12_comesOut zl_RX12_337 ziX12_comesOut zvX12_comesOut (by decide) (ly_a420 hL) rfl (Nat.le_of_ble_eq_true rfl) (Nat.le_of_ble_eq_true rfl) hc ?_
      refine ex_step (pc' := 238) dX12_expression_237 rfl ?_
      refine ex_getr dX12_expression_238 wf_RX12_119 (ly_a420 hL) rfl (ly_r420_50 hL) ?_
      refine ex_step (pc' := 242) dX12_expression_241 rfl ?_
      refine ex_geti dX12_expression_242 wf_RX12_328 (ly_a420 hL) rfl ?_
      refine ex_step (pc' := 246) dX12_expression_245 rfl ?_
      refine ex_getr dX12_expression_246 wf_RX12_20 (ly_a420 hL) rfl (ly_r420_5 hL) ?_
      refine ex_step (pc' := 250) dX12_expression_249 rfl ?_
      refine ex_geti dX12_expression_250 wf_RX12_231 (ly_a420 hL) rfl ?_
      obtain ⟨hv, h⟩ := h
      refine ex_iald dX12_expression_253 (Or.inl (ly_a423 hL)) hv ?_
      obtain ⟨hv, h⟩ := h
      refine ex_iastN dX12_expression_254 (ly_a454 hL) hv (fun I3 eI3 => ?_)
      have h := h I3 eI3
      refine ex_step (pc' := 256) dX12_expression_255 rfl ?_
      refine ex_step (pc' := 257) dX12_expression_256 rfl ?_
      refine ex_geti dX12_expression_257 wf_RX12_328 (ly_a420 hL) rfl ?_
      refine ex_step (pc' := 261) (st' := [.int 1, .int (I3 420 51), .ref 420]) dX12_expression_260 rfl ?_
      refine ex_step (pc' := 262) dX12_expression_261 rfl ?_
      refine ex_putiN dX12_expression_262 (wp_RX12_328 _) (ly_a420 hL) rfl ⟨rfl, rfl⟩ (fun I4 eI4 => ?_)
      have h := h I4 eI4
      refine ex_step (pc' := 266) dX12_expression_265 rfl ?_
      obtain ⟨I5, hc, h⟩ := h
      refine ex_callV (as := []) (st := []) (ci := 12) dX12_expression_266 zmX12_goesOn zl_RX12_249 ziX12_goesOn zvX12_goesOn (by decide) (ly_a420 hL) rfl (Nat.le_of_ble_eq_true rfl) (Nat.le_of_ble_eq_true rfl) hc ?_
      refine ex_step (pc' := 12) dX12_expression_269 rfl ?_
      exact h
    · have h := h.2 (Classical.not_not.mp c)
      refine ex_step (pc' := 221) dX12_expression_220 rfl ?_
      refine ex_step (pc' := 223) (st' := [.int 15, .ref 420, .ref 420]) dX12_expression_221 rfl ?_
      obtain ⟨v6, hc, h⟩ := h
      refine ex_callV (as := [.int 15]) (st := [.ref 420]) (ci := 12) dX12_expression_223 zmX12_is zl_RX12_246 ziX12_is zvX12_is (by decide) (ly_a420 hL) rfl (Nat.le_of_ble_eq_true rfl) (Nat.le_of_ble_eq_true rfl) hc ?_
      refine ex_if (pc' := 233) dX12_expression_226 (by decide) (fun c => ?_) (fun c => ?_)
      · have h := h.1 c
        refine ex_step (pc' := 234) (st' := [.int 0, .ref 420]) dX12_expression_233 rfl ?_
        obtain ⟨I7, hc, h⟩ := h
        refine ex_callV (as := [.int 0]) (st := []) (ci := 12) dX12_expression_234 zmX12_comesOut zl_RX12_337 ziX12_comesOut zvX12_comesOut (by decide) (ly_a420 hL) rfl (Nat.le_of_ble_eq_true rfl) (Nat.le_of_ble_eq_true rfl) hc ?_
        refine ex_step (pc' := 238) dX12_expression_237 rfl ?_
        refine ex_getr dX12_expression_238 wf_RX12_119 (ly_a420 hL) rfl (ly_r420_50 hL) ?_
        refine ex_step (pc' := 242) dX12_expression_241 rfl ?_
        refine ex_geti dX12_expression_242 wf_RX12_328 (ly_a420 hL) rfl ?_
        refine ex_step (pc' := 246) dX12_expression_245 rfl ?_
        refine ex_getr dX12_expression_246 wf_RX12_20 (ly_a420 hL) rfl (ly_r420_5 hL) ?_
        refine ex_step (pc' := 250) dX12_expression_249 rfl ?_
        refine ex_geti dX12_expression_250 wf_RX12_231 (ly_a420 hL) rfl ?_
        obtain ⟨hv, h⟩ := h
        refine ex_iald dX12_expression_253 (Or.inl (ly_a423 hL)) hv ?_
        obtain ⟨hv, h⟩ := h
        refine ex_iastN dX12_expression_254 (ly_a454 hL) hv (fun I8 eI8 => ?_)
        have h := h I8 eI8
        refine ex_step (pc' := 256) dX12_expression_255 rfl ?_
        refine ex_step (pc' := 257) dX12_expression_256 rfl ?_
        refine ex_geti dX12_expression_257 wf_RX12_328 (ly_a420 hL) rfl ?_
        refine ex_step (pc' := 261) (st' := [.int 1, .int (I8 420 51), .ref 420]) dX12_expression_260 rfl ?_
        refine ex_step (pc' := 262) dX12_expression_261 rfl ?_
        refine ex_putiN dX12_expression_262 (wp_RX12_328 _) (ly_a420 hL) rfl ⟨rfl, rfl⟩ (fun I9 eI9 => ?_)
        have h := h I9 eI9
        refine ex_step (pc' := 266) dX12_expression_265 rfl ?_
        obtain ⟨I10, hc, h⟩ := h
        refine ex_callV (as := []) (st := []) (ci := 12) dX12_expression_266 zmX12_goesOn zl_RX12_249 ziX12_goesOn zvX12_goesOn (by decide) (ly_a420 hL) rfl (Nat.le_of_ble_eq_true rfl) (Nat.le_of_ble_eq_true rfl) hc ?_
        refine ex_step (pc' := 12) dX12_expression_269 rfl ?_
        exact h
      · have h := h.2 c
        refine ex_step (pc' := 230) (st' := [.int 1, .ref 420]) dX12_expression_229 rfl ?_
        refine ex_step (pc' := 234) dX12_expression_230 rfl ?_
        obtain ⟨I11, hc, h⟩ := h
        refine ex_callV (as := [.int 1]) (st := []) (ci := 12) dX12_expression_234 zmX12_comesOut zl_RX12_337 ziX12_comesOut zvX12_comesOut (by decide) (ly_a420 hL) rfl (Nat.le_of_ble_eq_true rfl) (Nat.le_of_ble_eq_true rfl) hc ?_
        refine ex_step (pc' := 238) dX12_expression_237 rfl ?_
        refine ex_getr dX12_expression_238 wf_RX12_119 (ly_a420 hL) rfl (ly_r420_50 hL) ?_
        refine ex_step (pc' := 242) dX12_expression_241 rfl ?_
        refine ex_geti dX12_expression_242 wf_RX12_328 (ly_a420 hL) rfl ?_
        refine ex_step (pc' := 246) dX12_expression_245 rfl ?_
        refine ex_getr dX12_expression_246 wf_RX12_20 (ly_a420 hL) rfl (ly_r420_5 hL) ?_
        refine ex_step (pc' := 250) dX12_expression_249 rfl ?_
        refine ex_geti dX12_expression_250 wf_RX12_231 (ly_a420 hL) rfl ?_
        obtain ⟨hv, h⟩ := h
        refine ex_iald dX12_expression_253 (Or.inl (ly_a423 hL)) hv ?_
        obtain ⟨hv, h⟩ := h
        refine ex_iastN dX12_expression_254 (ly_a454 hL) hv (fun I12 eI12 => ?_)
        have h := h I12 eI12
        refine ex_step (pc' := 256) dX12_expression_255 rfl ?_
        refine ex_step (pc' := 257) dX12_expression_256 rfl ?_
        refine ex_geti dX12_expression_257 wf_RX12_328 (ly_a420 hL) rfl ?_
        refine ex_step (pc' := 261) (st' := [.int 1, .int (I12 420 51), .ref 420]) dX12_expression_260 rfl ?_
        refine ex_step (pc' := 262) dX12_expression_261 rfl ?_
        refine ex_putiN dX12_expression_262 (wp_RX12_328 _) (ly_a420 hL) rfl ⟨rfl, rfl⟩ (fun I13 eI13 => ?_)
        have h := h I13 eI13
        refine ex_step (pc' := 266) dX12_expression_265 rfl ?_
        obtain ⟨I14, hc, h⟩ := h
        refine ex_callV (as := []) (st := []) (ci := 12) dX12_expression_266 zmX12_goesOn zl_RX12_249 ziX12_goesOn zvX12_goesOn (by decide) (ly_a420 hL) rfl (Nat.le_of_ble_eq_true rfl) (Nat.le_of_ble_eq_true rfl) hc ?_
        refine ex_step (pc' := 12) dX12_expression_269 rfl ?_
        exact h
  · exact absurd (show ¬ (1 : Int32) = 0 from by decide) c
set_option maxHeartbeats 4000000 in
theorem BX12_expression_204 {d : Nat} {Z : zZ} {I : zI} {J : zJ} {o : zO} {t u : Nat}  (hL : zLY Z t u)  (h : (∃ (I1 : zI), zE (d + 2) kX12_comesOut 0 [some (.ref 420), some (.int 0), none] [] Z I J (none, Z, I1, J) ∧ o = (none, Z, I1, J))) : zE (d + 3) kX12_expression 204 [some (.ref 420), none, none] [] Z I J o := by
  refine ex_step (pc' := 205) dX12_expression_204 rfl ?_
  refine ex_step (pc' := 206) (st' := [.int 0, .ref 420]) dX12_expression_205 rfl ?_
  obtain ⟨I1, hc, h⟩ := h
  refine ex_callV (as := [.int 0]) (st := []) (ci := 12) dX12_expression_206 zmX12_comesOut zl_RX12_337 ziX12_comesOut zvX12_comesOut (by decide) (ly_a420 hL) rfl (Nat.le_of_ble_eq_true rfl) (Nat.le_of_ble_eq_true rfl) hc ?_
  rw [h]; exact ex_ret (v := none) ⟨dX12_expression_209, rfl⟩
set_option maxHeartbeats 4000000 in
theorem BX12_unit_0 {d : Nat} {Z : zZ} {I : zI} {J : zJ} {o : zO} {t u : Nat}  (hL : zLY Z t u)  (h : (∃ (v1 : Int32), zE (d + 1) kX12_is 0 [some (.ref 420), some (.int 2)] [] Z I J (some (.int v1), Z, I, J) ∧ ((v1 = 0 → ((¬ (I 420 13) = 0 → (∃ (I2 : zI), zE (d + 1) kX12_fail 0 [some (.ref 420), some (.int 1)] [] Z I J (none, Z, I2, J) ∧ o = (none, Z, I2, J))) ∧ ((I 420 13) = 0 → (vp_in (I 420 11) 403 ∧ (((I 423 (I 420 11).toNatClampNeg) < 31 → (∃ (I3 : zI), zE (d + 1) kX12_fail 0 [some (.ref 420), some (.int 1)] [] Z I J (none, Z, I3, J) ∧ o = (none, Z, I3, J))) ∧ (¬ (I 423 (I 420 11).toNatClampNeg) < 31 → (vp_in (I 420 11) 403 ∧ ((36 < (I 423 (I 420 11).toNatClampNeg) → (∃ (I4 : zI), zE (d + 1) kX12_fail 0 [some (.ref 420), some (.int 1)] [] Z I J (none, Z, I4, J) ∧ o = (none, Z, I4, J))) ∧ (¬ 36 < (I 423 (I 420 11).toNatClampNeg) → (vp_in (I 420 11) 403 ∧ (∃ (I5 : zI), zE (d + 1) kX12_emit 0 [some (.ref 420), some (.int 1), some (.int ((I 423 (I 420 11).toNatClampNeg) - 31))] [] Z I J (none, Z, I5, J) ∧ (∃ (I6 : zI), zE (d + 1) kX12_goesOn 0 [some (.ref 420)] [] Z I5 J (none, Z, I6, J) ∧ o = (none, Z, I6, J))))))))))))) ∧ (¬ v1 = 0 → (vp_in (I 420 11) 403 ∧ (∃ (I7 : zI), zE (d + 1) kX12_emit 0 [some (.ref 420), some (.int 0), some (.int (I 425 (I 420 11).toNatClampNeg))] [] Z I J (none, Z, I7, J) ∧ (∃ (I8 : zI), zE (d + 1) kX12_goesOn 0 [some (.ref 420)] [] Z I7 J (none, Z, I8, J) ∧ o = (none, Z, I8, J)))))))) : zE (d + 2) kX12_unit 0 [some (.ref 420)] [] Z I J o := by
  refine ex_step (pc' := 1) dX12_unit_0 rfl ?_
  refine ex_step (pc' := 2) (st' := [.int 2, .ref 420]) dX12_unit_1 rfl ?_
  obtain ⟨v1, hc, h⟩ := h
  refine ex_callV (as := [.int 2]) (st := []) (ci := 12) dX12_unit_2 zmX12_is zl_RX12_246 ziX12_is zvX12_is (by decide) (ly_a420 hL) rfl (Nat.le_of_ble_eq_true rfl) (Nat.le_of_ble_eq_true rfl) hc ?_
  refine ex_if (pc' := 29) dX12_unit_5 (by decide) (fun c => ?_) (fun c => ?_)
  · have h := h.1 c
    refine ex_step (pc' := 30) dX12_unit_29 rfl ?_
    refine ex_geti dX12_unit_30 wf_RX12_228 (ly_a420 hL) rfl ?_
    refine ex_if (pc' := 88) dX12_unit_33 (by decide) (fun c => ?_) (fun c => ?_)
    · have h := h.1 c
      refine ex_step (pc' := 89) dX12_unit_88 rfl ?_
      refine ex_step (pc' := 90) (st' := [.int 1, .ref 420]) dX12_unit_89 rfl ?_
      obtain ⟨I2, hc, h⟩ := h
      refine ex_callV (as := [.int 1]) (st := []) (ci := 12) dX12_unit_90 zmX12_fail zl_RX12_243 ziX12_fail zvX12_fail (by decide) (ly_a420 hL) rfl (Nat.le_of_ble_eq_true rfl) (Nat.le_of_ble_eq_true rfl) hc ?_
      rw [h]; exact ex_ret (v := none) ⟨dX12_unit_93, rfl⟩
    · have h := h.2 (Classical.not_not.mp c)
      refine ex_step (pc' := 37) dX12_unit_36 rfl ?_
      refine ex_getr dX12_unit_37 wf_RX12_20 (ly_a420 hL) rfl (ly_r420_5 hL) ?_
      refine ex_step (pc' := 41) dX12_unit_40 rfl ?_
      refine ex_geti dX12_unit_41 wf_RX12_231 (ly_a420 hL) rfl ?_
      obtain ⟨hv, h⟩ := h
      refine ex_iald dX12_unit_44 (Or.inl (ly_a423 hL)) hv ?_
      refine ex_step (pc' := 47) (st' := [.int 31, .int (I 423 (I 420 11).toNatClampNeg)]) dX12_unit_45 rfl ?_
      refine ex_icmp (pc' := 88) dX12_unit_47 (by decide) (fun c => ?_) (fun c => ?_)
      · have h := h.1 c
        refine ex_step (pc' := 89) dX12_unit_88 rfl ?_
        refine ex_step (pc' := 90) (st' := [.int 1, .ref 420]) dX12_unit_89 rfl ?_
        obtain ⟨I3, hc, h⟩ := h
        refine ex_callV (as := [.int 1]) (st := []) (ci := 12) dX12_unit_90 zmX12_fail zl_RX12_243 ziX12_fail zvX12_fail (by decide) (ly_a420 hL) rfl (Nat.le_of_ble_eq_true rfl) (Nat.le_of_ble_eq_true rfl) hc ?_
        rw [h]; exact ex_ret (v := none) ⟨dX12_unit_93, rfl⟩
      · have h := h.2 c
        refine ex_step (pc' := 51) dX12_unit_50 rfl ?_
        refine ex_getr dX12_unit_51 wf_RX12_20 (ly_a420 hL) rfl (ly_r420_5 hL) ?_
        refine ex_step (pc' := 55) dX12_unit_54 rfl ?_
        refine ex_geti dX12_unit_55 wf_RX12_231 (ly_a420 hL) rfl ?_
        obtain ⟨hv, h⟩ := h
        refine ex_iald dX12_unit_58 (Or.inl (ly_a423 hL)) hv ?_
        refine ex_step (pc' := 61) (st' := [.int 36, .int (I 423 (I 420 11).toNatClampNeg)]) dX12_unit_59 rfl ?_
        refine ex_icmp (pc' := 88) dX12_unit_61 (by decide) (fun c => ?_) (fun c => ?_)
        · have h := h.1 c
          refine ex_step (pc' := 89) dX12_unit_88 rfl ?_
          refine ex_step (pc' := 90) (st' := [.int 1, .ref 420]) dX12_unit_89 rfl ?_
          obtain ⟨I4, hc, h⟩ := h
          refine ex_callV (as := [.int 1]) (st := []) (ci := 12) dX12_unit_90 zmX12_fail zl_RX12_243 ziX12_fail zvX12_fail (by decide) (ly_a420 hL) rfl (Nat.le_of_ble_eq_true rfl) (Nat.le_of_ble_eq_true rfl) hc ?_
          rw [h]; exact ex_ret (v := none) ⟨dX12_unit_93, rfl⟩
        · have h := h.2 c
          refine ex_step (pc' := 65) dX12_unit_64 rfl ?_
          refine ex_step (pc' := 66) (st' := [.int 1, .ref 420]) dX12_unit_65 rfl ?_
          refine ex_step (pc' := 67) dX12_unit_66 rfl ?_
          refine ex_getr dX12_unit_67 wf_RX12_20 (ly_a420 hL) rfl (ly_r420_5 hL) ?_
          refine ex_step (pc' := 71) dX12_unit_70 rfl ?_
          refine ex_geti dX12_unit_71 wf_RX12_231 (ly_a420 hL) rfl ?_
          obtain ⟨hv, h⟩ := h
          refine ex_iald dX12_unit_74 (Or.inl (ly_a423 hL)) hv ?_
          refine ex_step (pc' := 77) (st' := [.int 31, .int (I 423 (I 420 11).toNatClampNeg), .int 1, .ref 420]) dX12_unit_75 rfl ?_
          refine ex_step (pc' := 78) dX12_unit_77 rfl ?_
          obtain ⟨I5, hc, h⟩ := h
          refine ex_callV (as := [.int 1, .int ((I 423 (I 420 11).toNatClampNeg) - 31)]) (st := []) (ci := 12) dX12_unit_78 zmX12_emit zl_RX12_331 ziX12_emit zvX12_emit (by decide) (ly_a420 hL) rfl (Nat.le_of_ble_eq_true rfl) (Nat.le_of_ble_eq_true rfl) hc ?_
          refine ex_step (pc' := 82) dX12_unit_81 rfl ?_
          obtain ⟨I6, hc, h⟩ := h
          refine ex_callV (as := []) (st := []) (ci := 12) dX12_unit_82 zmX12_goesOn zl_RX12_249 ziX12_goesOn zvX12_goesOn (by decide) (ly_a420 hL) rfl (Nat.le_of_ble_eq_true rfl) (Nat.le_of_ble_eq_true rfl) hc ?_
          refine ex_step (pc' := 93) dX12_unit_85 rfl ?_
          rw [h]; exact ex_ret (v := none) ⟨dX12_unit_93, rfl⟩
  · have h := h.2 c
    refine ex_step (pc' := 9) dX12_unit_8 rfl ?_
    refine ex_step (pc' := 10) (st' := [.int 0, .ref 420]) dX12_unit_9 rfl ?_
    refine ex_step (pc' := 11) dX12_unit_10 rfl ?_
    refine ex_getr dX12_unit_11 wf_RX12_27 (ly_a420 hL) rfl (ly_r420_7 hL) ?_
    refine ex_step (pc' := 15) dX12_unit_14 rfl ?_
    refine ex_geti dX12_unit_15 wf_RX12_231 (ly_a420 hL) rfl ?_
    obtain ⟨hv, h⟩ := h
    refine ex_iald dX12_unit_18 (Or.inl (ly_a425 hL)) hv ?_
    obtain ⟨I7, hc, h⟩ := h
    refine ex_callV (as := [.int 0, .int (I 425 (I 420 11).toNatClampNeg)]) (st := []) (ci := 12) dX12_unit_19 zmX12_emit zl_RX12_331 ziX12_emit zvX12_emit (by decide) (ly_a420 hL) rfl (Nat.le_of_ble_eq_true rfl) (Nat.le_of_ble_eq_true rfl) hc ?_
    refine ex_step (pc' := 23) dX12_unit_22 rfl ?_
    obtain ⟨I8, hc, h⟩ := h
    refine ex_callV (as := []) (st := []) (ci := 12) dX12_unit_23 zmX12_goesOn zl_RX12_249 ziX12_goesOn zvX12_goesOn (by decide) (ly_a420 hL) rfl (Nat.le_of_ble_eq_true rfl) (Nat.le_of_ble_eq_true rfl) hc ?_
    refine ex_step (pc' := 93) dX12_unit_26 rfl ?_
    rw [h]; exact ex_ret (v := none) ⟨dX12_unit_93, rfl⟩
set_option maxHeartbeats 4000000 in
theorem BX12_termOf_0 {d : Nat} {Z : zZ} {I : zI} {J : zJ} {o : zO} {t u : Nat} (x1 : Int32) (x2 : Int32) (hL : zLY Z t u)  (h : zE d kX12_termOf 5 [some (.ref 420), none, some (.int x2), some (.int 0), some (.int x1), none, none, none] [] Z I J o) : zE d kX12_termOf 0 [some (.ref 420), some (.int x1), some (.int x2), none, none, none, none, none] [] Z I J o := by
  refine ex_step (pc' := 1) (st' := [.int 0]) dX12_termOf_0 rfl ?_
  refine ex_step (pc' := 2) (ls' := [some (.ref 420), some (.int x1), some (.int x2), some (.int 0), none, none, none, none]) dX12_termOf_1 rfl ?_
  refine ex_step (pc' := 3) dX12_termOf_2 rfl ?_
  refine ex_step (pc' := 5) (ls' := [some (.ref 420), some (.int x1), some (.int x2), some (.int 0), some (.int x1), none, none, none]) dX12_termOf_3 rfl ?_
  exact ex_less (ls' := [some (.ref 420), none, some (.int x2), some (.int 0), some (.int x1), none, none, none]) ⟨rfl, ⟨rfl, ⟨rfl, ⟨rfl, trivial⟩⟩⟩⟩ h
set_option maxHeartbeats 4000000 in
theorem BX12_termOf_5 {d : Nat} {Z : zZ} {I : zI} {J : zJ} {o : zO} {t u : Nat} (x2 : Int32) (x3 : Int32) (x4 : Int32) (hL : zLY Z t u)  (h : ((x2 ≤ x4 → o = (some (.int (I 456 0)), Z, I, J)) ∧ (¬ x2 ≤ x4 → (vp_in x4 840 ∧ ((2 ≤ (I 452 x4.toNatClampNeg) → (vp_in ((x3 + (-1)) - 1) 400 ∧ (∀ y1 : Int32, y1 = (I 456 ((x3 + (-1)) - 1).toNatClampNeg) → (vp_in (x3 + (-1)) 400 ∧ (∀ y2 : Int32, y2 = (I 456 (x3 + (-1)).toNatClampNeg) → ((¬ (I 452 x4.toNatClampNeg) = 5 → zE d kX12_termOf 104 [some (.ref 420), none, some (.int x2), some (.int (x3 + (-1))), some (.int x4), some (.int (I 452 x4.toNatClampNeg)), some (.int y1), some (.int y2)] [] Z I J o) ∧ ((I 452 x4.toNatClampNeg) = 5 → ((¬ y2 = 0 → zE d kX12_termOf 104 [some (.ref 420), none, some (.int x2), some (.int (x3 + (-1))), some (.int x4), some (.int (I 452 x4.toNatClampNeg)), some (.int y1), some (.int y2)] [] Z I J o) ∧ (y2 = 0 → (∀ I3 : zI, I3 = zu I 420 54 1 → o = (some (.int 0), Z, I3, J))))))))))) ∧ (¬ 2 ≤ (I 452 x4.toNatClampNeg) → ((¬ (I 452 x4.toNatClampNeg) = 0 → (vp_in x4 840 ∧ (vp_in (I 453 x4.toNatClampNeg) 6 ∧ (vp_in x3 400 ∧ (∀ I4 : zI, I4 = zu I 456 x3.toNatClampNeg (I 455 (I 453 x4.toNatClampNeg).toNatClampNeg) → zE d kX12_termOf 159 [some (.ref 420), none, some (.int x2), some (.int (x3 + 1)), some (.int x4), none, none, none] [] Z I4 J o))))) ∧ ((I 452 x4.toNatClampNeg) = 0 → (vp_in x4 840 ∧ (vp_in x3 400 ∧ (∀ I5 : zI, I5 = zu I 456 x3.toNatClampNeg (I 453 x4.toNatClampNeg) → zE d kX12_termOf 159 [some (.ref 420), none, some (.int x2), some (.int (x3 + 1)), some (.int x4), none, none, none] [] Z I5 J o))))))))))) : zE d kX12_termOf 5 [some (.ref 420), none, some (.int x2), some (.int x3), some (.int x4), none, none, none] [] Z I J o := by
  refine ex_step (pc' := 7) dX12_termOf_5 rfl ?_
  refine ex_step (pc' := 8) dX12_termOf_7 rfl ?_
  refine ex_icmp (pc' := 165) dX12_termOf_8 (by decide) (fun c => ?_) (fun c => ?_)
  · have h := h.1 c
    refine ex_step (pc' := 166) dX12_termOf_165 rfl ?_
    refine ex_getr dX12_termOf_166 wf_RX12_125 (ly_a420 hL) rfl (ly_r420_53 hL) ?_
    refine ex_step (pc' := 170) (st' := [.int 0, .ref 456]) dX12_termOf_169 rfl ?_
    have hv : vp_in 0 400 := by unfold vp_in; decide
    refine ex_iald dX12_termOf_170 (Or.inl (ly_a456 hL)) hv ?_
    rw [h]; exact ex_ret (v := some (.int (I 456 0))) ⟨dX12_termOf_171, _, rfl, rfl⟩
  · have h := h.2 c
    refine ex_step (pc' := 12) dX12_termOf_11 rfl ?_
    refine ex_getr dX12_termOf_12 wf_RX12_113 (ly_a420 hL) rfl (ly_r420_48 hL) ?_
    refine ex_step (pc' := 17) dX12_termOf_15 rfl ?_
    obtain ⟨hv, h⟩ := h
    refine ex_iald dX12_termOf_17 (Or.inl (ly_a452 hL)) hv ?_
    refine ex_step (pc' := 20) (ls' := [some (.ref 420), none, some (.int x2), some (.int x3), some (.int x4), some (.int (I 452 x4.toNatClampNeg)), none, none]) dX12_termOf_18 rfl ?_
    refine ex_step (pc' := 22) dX12_termOf_20 rfl ?_
    refine ex_step (pc' := 23) (st' := [.int 2, .int (I 452 x4.toNatClampNeg)]) dX12_termOf_22 rfl ?_
    refine ex_icmp (pc' := 65) dX12_termOf_23 (by decide) (fun c => ?_) (fun c => ?_)
    · have h := h.1 c
      refine ex_step (pc' := 68) (ls' := [some (.ref 420), none, some (.int x2), some (.int (x3 + (-1))), some (.int x4), some (.int (I 452 x4.toNatClampNeg)), none, none]) dX12_termOf_65 rfl ?_
      refine ex_step (pc' := 69) dX12_termOf_68 rfl ?_
      refine ex_getr dX12_termOf_69 wf_RX12_125 (ly_a420 hL) rfl (ly_r420_53 hL) ?_
      refine ex_step (pc' := 73) dX12_termOf_72 rfl ?_
      refine ex_step (pc' := 74) (st' := [.int 1, .int (x3 + (-1)), .ref 456]) dX12_termOf_73 rfl ?_
      refine ex_step (pc' := 75) dX12_termOf_74 rfl ?_
      obtain ⟨hv, h⟩ := h
      refine ex_iald dX12_termOf_75 (Or.inl (ly_a456 hL)) hv ?_
      refine ex_topi (fun y1 ey1 => ?_)
      have h := h y1 ey1
      refine ex_step (pc' := 78) (ls' := [some (.ref 420), none, some (.int x2), some (.int (x3 + (-1))), some (.int x4), some (.int (I 452 x4.toNatClampNeg)), some (.int y1), none]) dX12_termOf_76 rfl ?_
      refine ex_step (pc' := 79) dX12_termOf_78 rfl ?_
      refine ex_getr dX12_termOf_79 wf_RX12_125 (ly_a420 hL) rfl (ly_r420_53 hL) ?_
      refine ex_step (pc' := 83) dX12_termOf_82 rfl ?_
      obtain ⟨hv, h⟩ := h
      refine ex_iald dX12_termOf_83 (Or.inl (ly_a456 hL)) hv ?_
      refine ex_topi (fun y2 ey2 => ?_)
      have h := h y2 ey2
      refine ex_step (pc' := 86) (ls' := [some (.ref 420), none, some (.int x2), some (.int (x3 + (-1))), some (.int x4), some (.int (I 452 x4.toNatClampNeg)), some (.int y1), some (.int y2)]) dX12_termOf_84 rfl ?_
      refine ex_step (pc' := 88) dX12_termOf_86 rfl ?_
      refine ex_step (pc' := 89) (st' := [.int 5, .int (I 452 x4.toNatClampNeg)]) dX12_termOf_88 rfl ?_
      refine ex_icmp (pc' := 104) dX12_termOf_89 (by decide) (fun c => ?_) (fun c => ?_)
      · have h := h.1 c
        exact h
      · have h := h.2 (Classical.not_not.mp c)
        refine ex_step (pc' := 94) dX12_termOf_92 rfl ?_
        refine ex_if (pc' := 104) dX12_termOf_94 (by decide) (fun c => ?_) (fun c => ?_)
        · have h := h.1 c
          exact h
        · have h := h.2 (Classical.not_not.mp c)
          refine ex_step (pc' := 98) dX12_termOf_97 rfl ?_
          refine ex_step (pc' := 99) (st' := [.int 1, .ref 420]) dX12_termOf_98 rfl ?_
          refine ex_putiN dX12_termOf_99 (wp_RX12_341 _) (ly_a420 hL) rfl ⟨rfl, rfl⟩ (fun I3 eI3 => ?_)
          have h := h I3 eI3
          refine ex_step (pc' := 103) (st' := [.int 0]) dX12_termOf_102 rfl ?_
          rw [h]; exact ex_ret (v := some (.int 0)) ⟨dX12_termOf_103, _, rfl, rfl⟩
    · have h := h.2 c
      refine ex_step (pc' := 27) dX12_termOf_26 rfl ?_
      refine ex_getr dX12_termOf_27 wf_RX12_125 (ly_a420 hL) rfl (ly_r420_53 hL) ?_
      refine ex_step (pc' := 31) dX12_termOf_30 rfl ?_
      refine ex_step (pc' := 33) dX12_termOf_31 rfl ?_
      refine ex_if (pc' := 46) dX12_termOf_33 (by decide) (fun c => ?_) (fun c => ?_)
      · have h := h.1 c
        refine ex_step (pc' := 47) dX12_termOf_46 rfl ?_
        refine ex_getr dX12_termOf_47 wf_RX12_122 (ly_a420 hL) rfl (ly_r420_52 hL) ?_
        refine ex_step (pc' := 51) dX12_termOf_50 rfl ?_
        refine ex_getr dX12_termOf_51 wf_RX12_116 (ly_a420 hL) rfl (ly_r420_49 hL) ?_
        refine ex_step (pc' := 56) dX12_termOf_54 rfl ?_
        obtain ⟨hv, h⟩ := h
        refine ex_iald dX12_termOf_56 (Or.inl (ly_a453 hL)) hv ?_
        obtain ⟨hv, h⟩ := h
        refine ex_iald dX12_termOf_57 (Or.inl (ly_a455 hL)) hv ?_
        obtain ⟨hv, h⟩ := h
        refine ex_iastN dX12_termOf_58 (ly_a456 hL) hv (fun I4 eI4 => ?_)
        have h := h I4 eI4
        refine ex_step (pc' := 62) (ls' := [some (.ref 420), none, some (.int x2), some (.int (x3 + 1)), some (.int x4), some (.int (I 452 x4.toNatClampNeg)), none, none]) dX12_termOf_59 rfl ?_
        refine ex_step (pc' := 159) dX12_termOf_62 rfl ?_
        exact ex_less (ls' := [some (.ref 420), none, some (.int x2), some (.int (x3 + 1)), some (.int x4), none, none, none]) ⟨rfl, ⟨rfl, ⟨rfl, ⟨rfl, trivial⟩⟩⟩⟩ h
      · have h := h.2 (Classical.not_not.mp c)
        refine ex_step (pc' := 37) dX12_termOf_36 rfl ?_
        refine ex_getr dX12_termOf_37 wf_RX12_116 (ly_a420 hL) rfl (ly_r420_49 hL) ?_
        refine ex_step (pc' := 42) dX12_termOf_40 rfl ?_
        obtain ⟨hv, h⟩ := h
        refine ex_iald dX12_termOf_42 (Or.inl (ly_a453 hL)) hv ?_
        refine ex_step (pc' := 58) dX12_termOf_43 rfl ?_
        obtain ⟨hv, h⟩ := h
        refine ex_iastN dX12_termOf_58 (ly_a456 hL) hv (fun I5 eI5 => ?_)
        have h := h I5 eI5
        refine ex_step (pc' := 62) (ls' := [some (.ref 420), none, some (.int x2), some (.int (x3 + 1)), some (.int x4), some (.int (I 452 x4.toNatClampNeg)), none, none]) dX12_termOf_59 rfl ?_
        refine ex_step (pc' := 159) dX12_termOf_62 rfl ?_
        exact ex_less (ls' := [some (.ref 420), none, some (.int x2), some (.int (x3 + 1)), some (.int x4), none, none, none]) ⟨rfl, ⟨rfl, ⟨rfl, ⟨rfl, trivial⟩⟩⟩⟩ h
set_option maxHeartbeats 4000000 in
theorem BX12_termOf_104 {d : Nat} {Z : zZ} {I : zI} {J : zJ} {o : zO} {t u : Nat} (x2 : Int32) (x3 : Int32) (x4 : Int32) (x5 : Int32) (x6 : Int32) (x7 : Int32) (hL : zLY Z t u)  (h : ((¬ x5 = 2 → ((¬ x5 = 3 → ((¬ x5 = 4 → (¬ x7 = 0 ∧ (vp_in (x3 - 1) 400 ∧ (∀ I1 : zI, I1 = zu I 456 (x3 - 1).toNatClampNeg (x6 / x7) → zE d kX12_termOf 159 [some (.ref 420), none, some (.int x2), some (.int x3), some (.int x4), none, none, none] [] Z I1 J o)))) ∧ (x5 = 4 → (vp_in (x3 - 1) 400 ∧ (∀ I2 : zI, I2 = zu I 456 (x3 - 1).toNatClampNeg (x6 * x7) → zE d kX12_termOf 159 [some (.ref 420), none, some (.int x2), some (.int x3), some (.int x4), none, none, none] [] Z I2 J o))))) ∧ (x5 = 3 → (vp_in (x3 - 1) 400 ∧ (∀ I3 : zI, I3 = zu I 456 (x3 - 1).toNatClampNeg (x6 - x7) → zE d kX12_termOf 159 [some (.ref 420), none, some (.int x2), some (.int x3), some (.int x4), none, none, none] [] Z I3 J o))))) ∧ (x5 = 2 → (vp_in (x3 - 1) 400 ∧ (∀ I4 : zI, I4 = zu I 456 (x3 - 1).toNatClampNeg (x6 + x7) → zE d kX12_termOf 159 [some (.ref 420), none, some (.int x2), some (.int x3), some (.int x4), none, none, none] [] Z I4 J o))))) : zE d kX12_termOf 104 [some (.ref 420), none, some (.int x2), some (.int x3), some (.int x4), some (.int x5), some (.int x6), some (.int x7)] [] Z I J o := by
  refine ex_step (pc' := 105) dX12_termOf_104 rfl ?_
  refine ex_getr dX12_termOf_105 wf_RX12_125 (ly_a420 hL) rfl (ly_r420_53 hL) ?_
  refine ex_step (pc' := 109) dX12_termOf_108 rfl ?_
  refine ex_step (pc' := 110) (st' := [.int 1, .int x3, .ref 456]) dX12_termOf_109 rfl ?_
  refine ex_step (pc' := 111) dX12_termOf_110 rfl ?_
  refine ex_step (pc' := 113) dX12_termOf_111 rfl ?_
  refine ex_step (pc' := 114) (st' := [.int 2, .int x5, .int (x3 - 1), .ref 456]) dX12_termOf_113 rfl ?_
  refine ex_icmp (pc' := 125) dX12_termOf_114 (by decide) (fun c => ?_) (fun c => ?_)
  · have h := h.1 c
    refine ex_step (pc' := 127) dX12_termOf_125 rfl ?_
    refine ex_step (pc' := 128) (st' := [.int 3, .int x5, .int (x3 - 1), .ref 456]) dX12_termOf_127 rfl ?_
    refine ex_icmp (pc' := 139) dX12_termOf_128 (by decide) (fun c => ?_) (fun c => ?_)
    · have h := h.1 c
      refine ex_step (pc' := 141) dX12_termOf_139 rfl ?_
      refine ex_step (pc' := 142) (st' := [.int 4, .int x5, .int (x3 - 1), .ref 456]) dX12_termOf_141 rfl ?_
      refine ex_icmp (pc' := 153) dX12_termOf_142 (by decide) (fun c => ?_) (fun c => ?_)
      · have h := h.1 c
        refine ex_step (pc' := 155) dX12_termOf_153 rfl ?_
        refine ex_step (pc' := 157) dX12_termOf_155 rfl ?_
        obtain ⟨hz, h⟩ := h
        refine ex_div dX12_termOf_157 hz ?_
        obtain ⟨hv, h⟩ := h
        refine ex_iastN dX12_termOf_158 (ly_a456 hL) hv (fun I1 eI1 => ?_)
        have h := h I1 eI1
        exact ex_less (ls' := [some (.ref 420), none, some (.int x2), some (.int x3), some (.int x4), none, none, none]) ⟨rfl, ⟨rfl, ⟨rfl, ⟨rfl, trivial⟩⟩⟩⟩ h
      · have h := h.2 (Classical.not_not.mp c)
        refine ex_step (pc' := 147) dX12_termOf_145 rfl ?_
        refine ex_step (pc' := 149) dX12_termOf_147 rfl ?_
        refine ex_step (pc' := 150) dX12_termOf_149 rfl ?_
        refine ex_step (pc' := 158) dX12_termOf_150 rfl ?_
        obtain ⟨hv, h⟩ := h
        refine ex_iastN dX12_termOf_158 (ly_a456 hL) hv (fun I2 eI2 => ?_)
        have h := h I2 eI2
        exact ex_less (ls' := [some (.ref 420), none, some (.int x2), some (.int x3), some (.int x4), none, none, none]) ⟨rfl, ⟨rfl, ⟨rfl, ⟨rfl, trivial⟩⟩⟩⟩ h
    · have h := h.2 (Classical.not_not.mp c)
      refine ex_step (pc' := 133) dX12_termOf_131 rfl ?_
      refine ex_step (pc' := 135) dX12_termOf_133 rfl ?_
      refine ex_step (pc' := 136) dX12_termOf_135 rfl ?_
      refine ex_step (pc' := 158) dX12_termOf_136 rfl ?_
      obtain ⟨hv, h⟩ := h
      refine ex_iastN dX12_termOf_158 (ly_a456 hL) hv (fun I3 eI3 => ?_)
      have h := h I3 eI3
      exact ex_less (ls' := [some (.ref 420), none, some (.int x2), some (.int x3), some (.int x4), none, none, none]) ⟨rfl, ⟨rfl, ⟨rfl, ⟨rfl, trivial⟩⟩⟩⟩ h
  · have h := h.2 (Classical.not_not.mp c)
    refine ex_step (pc' := 119) dX12_termOf_117 rfl ?_
    refine ex_step (pc' := 121) dX12_termOf_119 rfl ?_
    refine ex_step (pc' := 122) dX12_termOf_121 rfl ?_
    refine ex_step (pc' := 158) dX12_termOf_122 rfl ?_
    obtain ⟨hv, h⟩ := h
    refine ex_iastN dX12_termOf_158 (ly_a456 hL) hv (fun I4 eI4 => ?_)
    have h := h I4 eI4
    exact ex_less (ls' := [some (.ref 420), none, some (.int x2), some (.int x3), some (.int x4), none, none, none]) ⟨rfl, ⟨rfl, ⟨rfl, ⟨rfl, trivial⟩⟩⟩⟩ h
set_option maxHeartbeats 4000000 in
theorem BX12_termOf_159 {d : Nat} {Z : zZ} {I : zI} {J : zJ} {o : zO} {t u : Nat} (x2 : Int32) (x3 : Int32) (x4 : Int32) (hL : zLY Z t u)  (h : zE d kX12_termOf 5 [some (.ref 420), none, some (.int x2), some (.int x3), some (.int (x4 + 1)), none, none, none] [] Z I J o) : zE d kX12_termOf 159 [some (.ref 420), none, some (.int x2), some (.int x3), some (.int x4), none, none, none] [] Z I J o := by
  refine ex_step (pc' := 162) (ls' := [some (.ref 420), none, some (.int x2), some (.int x3), some (.int (x4 + 1)), none, none, none]) dX12_termOf_159 rfl ?_
  refine ex_step (pc' := 5) dX12_termOf_162 rfl ?_
  exact h
set_option maxHeartbeats 4000000 in
theorem BX12_isMan_0 {d : Nat} {Z : zZ} {I : zI} {J : zJ} {o : zO} {t u : Nat} (x1 : Int32) (hL : zLY Z t u)  (h : (vp_in (I 420 18) 2 ∧ (narrow .boolean (.int (zbi (0 ≤ x1 ∧ x1 ≤ ((I 431 (I 420 18).toNatClampNeg) - 1)))) = .int (zbi (0 ≤ x1 ∧ x1 ≤ ((I 431 (I 420 18).toNatClampNeg) - 1))) ∧ o = (some (.int (zbi (0 ≤ x1 ∧ x1 ≤ ((I 431 (I 420 18).toNatClampNeg) - 1)))), Z, I, J)))) : zE (d + 1) kX12_isMan 0 [some (.ref 420), some (.int x1)] [] Z I J o := by
  refine ex_step (pc' := 1) dX12_isMan_0 rfl ?_
  refine ex_step (pc' := 2) (st' := [.int 0, .int x1]) dX12_isMan_1 rfl ?_
  refine ex_step (pc' := 3) dX12_isMan_2 rfl ?_
  refine ex_getr dX12_isMan_3 wf_RX12_49 (ly_a420 hL) rfl (ly_r420_24 hL) ?_
  refine ex_step (pc' := 7) dX12_isMan_6 rfl ?_
  refine ex_geti dX12_isMan_7 wf_RX12_258 (ly_a420 hL) rfl ?_
  obtain ⟨hv, h⟩ := h
  refine ex_iald dX12_isMan_10 (Or.inl (ly_a431 hL)) hv ?_
  refine ex_step (pc' := 12) (st' := [.int 1, .int (I 431 (I 420 18).toNatClampNeg), .int 0, .int x1]) dX12_isMan_11 rfl ?_
  refine ex_step (pc' := 13) dX12_isMan_12 rfl ?_
  refine ex_callS (as := [.int x1, .int 0, .int ((I 431 (I 420 18).toNatClampNeg) - 1)]) (st := []) dX12_isMan_13 zmX12_in zl_RX12_345 zsX12_in rfl (Nat.le_of_ble_eq_true rfl) (Nat.le_of_ble_eq_true rfl) M_in ?_
  obtain ⟨hn, h⟩ := h
  rw [h]; exact ex_ret (v := some (.int (zbi (0 ≤ x1 ∧ x1 ≤ ((I 431 (I 420 18).toNatClampNeg) - 1))))) ⟨dX12_isMan_16, _, rfl, hn⟩
set_option maxHeartbeats 4000000 in
theorem BX12_begins_0 {d : Nat} {Z : zZ} {I : zI} {J : zJ} {o : zO} {t u : Nat}  (hL : zLY Z t u)  (h : zE d kX12_begins 2 [some (.ref 420), some (.int 0)] [] Z I J o) : zE d kX12_begins 0 [some (.ref 420), none] [] Z I J o := by
  refine ex_step (pc' := 1) (st' := [.int 0]) dX12_begins_0 rfl ?_
  refine ex_step (pc' := 2) (ls' := [some (.ref 420), some (.int 0)]) dX12_begins_1 rfl ?_
  exact h
set_option maxHeartbeats 4000000 in
theorem BX12_begins_2 {d : Nat} {Z : zZ} {I : zI} {J : zJ} {o : zO} {t u : Nat} (x1 : Int32) (hL : zLY Z t u)  (h : ((30 ≤ x1 → zE d kX12_begins 23 [some (.ref 420), some (.int 0)] [] Z I J o) ∧ (¬ 30 ≤ x1 → (vp_in x1 1290 ∧ (∀ I1 : zI, I1 = zu I 458 x1.toNatClampNeg 0 → zE d kX12_begins 2 [some (.ref 420), some (.int (x1 + 1))] [] Z I1 J o))))) : zE d kX12_begins 2 [some (.ref 420), some (.int x1)] [] Z I J o := by
  refine ex_step (pc' := 3) dX12_begins_2 rfl ?_
  refine ex_step (pc' := 5) (st' := [.int 30, .int x1]) dX12_begins_3 rfl ?_
  refine ex_icmp (pc' := 21) dX12_begins_5 (by decide) (fun c => ?_) (fun c => ?_)
  · have h := h.1 c
    refine ex_step (pc' := 22) (st' := [.int 0]) dX12_begins_21 rfl ?_
    refine ex_step (pc' := 23) (ls' := [some (.ref 420), some (.int 0)]) dX12_begins_22 rfl ?_
    exact h
  · have h := h.2 c
    refine ex_step (pc' := 9) dX12_begins_8 rfl ?_
    refine ex_getr dX12_begins_9 wf_RX12_131 (ly_a420 hL) rfl (ly_r420_56 hL) ?_
    refine ex_step (pc' := 13) dX12_begins_12 rfl ?_
    refine ex_step (pc' := 14) (st' := [.int 0, .int x1, .ref 458]) dX12_begins_13 rfl ?_
    obtain ⟨hv, h⟩ := h
    refine ex_iastN dX12_begins_14 (ly_a458 hL) hv (fun I1 eI1 => ?_)
    have h := h I1 eI1
    refine ex_step (pc' := 18) (ls' := [some (.ref 420), some (.int (x1 + 1))]) dX12_begins_15 rfl ?_
    refine ex_step (pc' := 2) dX12_begins_18 rfl ?_
    exact h
set_option maxHeartbeats 4000000 in
theorem BX12_begins_23 {d : Nat} {Z : zZ} {I : zI} {J : zJ} {o : zO} {t u : Nat} (x1 : Int32) (hL : zLY Z t u)  (h : ((7 ≤ x1 → o = (none, Z, I, J)) ∧ (¬ 7 ≤ x1 → (vp_in (((7 : Int32) * (I 420 18)) + x1) 14 ∧ (vp_in x1 1290 ∧ (∀ I1 : zI, I1 = zu I 458 x1.toNatClampNeg (I 432 (((7 : Int32) * (I 420 18)) + x1).toNatClampNeg) → (vp_in (((7 : Int32) * (I1 420 18)) + x1) 14 ∧ (vp_in ((7 : Int32) + x1) 1290 ∧ (∀ I2 : zI, I2 = zu I1 458 ((7 : Int32) + x1).toNatClampNeg (I1 433 (((7 : Int32) * (I1 420 18)) + x1).toNatClampNeg) → (vp_in x1 7 ∧ (∀ I3 : zI, I3 = zu I2 459 x1.toNatClampNeg 0 → zE d kX12_begins 23 [some (.ref 420), some (.int (x1 + 1))] [] Z I3 J o))))))))))) : zE d kX12_begins 23 [some (.ref 420), some (.int x1)] [] Z I J o := by
  refine ex_step (pc' := 24) dX12_begins_23 rfl ?_
  refine ex_step (pc' := 26) (st' := [.int 7, .int x1]) dX12_begins_24 rfl ?_
  refine ex_icmp (pc' := 85) dX12_begins_26 (by decide) (fun c => ?_) (fun c => ?_)
  · have h := h.1 c
    rw [h]; exact ex_ret (v := none) ⟨dX12_begins_85, rfl⟩
  · have h := h.2 c
    refine ex_step (pc' := 30) dX12_begins_29 rfl ?_
    refine ex_getr dX12_begins_30 wf_RX12_131 (ly_a420 hL) rfl (ly_r420_56 hL) ?_
    refine ex_step (pc' := 34) dX12_begins_33 rfl ?_
    refine ex_step (pc' := 35) dX12_begins_34 rfl ?_
    refine ex_getr dX12_begins_35 wf_RX12_52 (ly_a420 hL) rfl (ly_r420_25 hL) ?_
    refine ex_step (pc' := 40) (st' := [.int 7, .ref 432, .int x1, .ref 458]) dX12_begins_38 rfl ?_
    refine ex_step (pc' := 41) dX12_begins_40 rfl ?_
    refine ex_geti dX12_begins_41 wf_RX12_258 (ly_a420 hL) rfl ?_
    refine ex_step (pc' := 45) dX12_begins_44 rfl ?_
    refine ex_step (pc' := 46) dX12_begins_45 rfl ?_
    refine ex_step (pc' := 47) dX12_begins_46 rfl ?_
    obtain ⟨hv, h⟩ := h
    refine ex_iald dX12_begins_47 (Or.inl (ly_a432 hL)) hv ?_
    obtain ⟨hv, h⟩ := h
    refine ex_iastN dX12_begins_48 (ly_a458 hL) hv (fun I1 eI1 => ?_)
    have h := h I1 eI1
    refine ex_step (pc' := 50) dX12_begins_49 rfl ?_
    refine ex_getr dX12_begins_50 wf_RX12_131 (ly_a420 hL) rfl (ly_r420_56 hL) ?_
    refine ex_step (pc' := 55) (st' := [.int 7, .ref 458]) dX12_begins_53 rfl ?_
    refine ex_step (pc' := 56) dX12_begins_55 rfl ?_
    refine ex_step (pc' := 57) dX12_begins_56 rfl ?_
    refine ex_step (pc' := 58) dX12_begins_57 rfl ?_
    refine ex_getr dX12_begins_58 wf_RX12_55 (ly_a420 hL) rfl (ly_r420_26 hL) ?_
    refine ex_step (pc' := 63) (st' := [.int 7, .ref 433, .int ((7 : Int32) + x1), .ref 458]) dX12_begins_61 rfl ?_
    refine ex_step (pc' := 64) dX12_begins_63 rfl ?_
    refine ex_geti dX12_begins_64 wf_RX12_258 (ly_a420 hL) rfl ?_
    refine ex_step (pc' := 68) dX12_begins_67 rfl ?_
    refine ex_step (pc' := 69) dX12_begins_68 rfl ?_
    refine ex_step (pc' := 70) dX12_begins_69 rfl ?_
    obtain ⟨hv, h⟩ := h
    refine ex_iald dX12_begins_70 (Or.inl (ly_a433 hL)) hv ?_
    obtain ⟨hv, h⟩ := h
    refine ex_iastN dX12_begins_71 (ly_a458 hL) hv (fun I2 eI2 => ?_)
    have h := h I2 eI2
    refine ex_step (pc' := 73) dX12_begins_72 rfl ?_
    refine ex_getr dX12_begins_73 wf_RX12_134 (ly_a420 hL) rfl (ly_r420_57 hL) ?_
    refine ex_step (pc' := 77) dX12_begins_76 rfl ?_
    refine ex_step (pc' := 78) (st' := [.int 0, .int x1, .ref 459]) dX12_begins_77 rfl ?_
    obtain ⟨hv, h⟩ := h
    refine ex_iastN dX12_begins_78 (ly_a459 hL) hv (fun I3 eI3 => ?_)
    have h := h I3 eI3
    refine ex_step (pc' := 82) (ls' := [some (.ref 420), some (.int (x1 + 1))]) dX12_begins_79 rfl ?_
    refine ex_step (pc' := 23) dX12_begins_82 rfl ?_
    exact h
set_option maxHeartbeats 4000000 in
theorem BX12_keepsRow_0 {d : Nat} {Z : zZ} {I : zI} {J : zJ} {o : zO} {t u : Nat}  (hL : zLY Z t u)  (h : zE d kX12_keepsRow 2 [some (.ref 420), some (.int 0)] [] Z I J o) : zE d kX12_keepsRow 0 [some (.ref 420), none] [] Z I J o := by
  refine ex_step (pc' := 1) (st' := [.int 0]) dX12_keepsRow_0 rfl ?_
  refine ex_step (pc' := 2) (ls' := [some (.ref 420), some (.int 0)]) dX12_keepsRow_1 rfl ?_
  exact h
set_option maxHeartbeats 4000000 in
theorem BX12_keepsRow_2 {d : Nat} {Z : zZ} {I : zI} {J : zJ} {o : zO} {t u : Nat} (x1 : Int32) (hL : zLY Z t u)  (h : ((1290 ≤ x1 → o = (none, Z, I, J)) ∧ (¬ 1290 ≤ x1 → (vp_in x1 1290 ∧ (vp_in x1 1290 ∧ (∀ I1 : zI, I1 = zu I 457 x1.toNatClampNeg (I 458 x1.toNatClampNeg) → zE d kX12_keepsRow 2 [some (.ref 420), some (.int (x1 + 1))] [] Z I1 J o)))))) : zE d kX12_keepsRow 2 [some (.ref 420), some (.int x1)] [] Z I J o := by
  refine ex_step (pc' := 3) dX12_keepsRow_2 rfl ?_
  refine ex_step (pc' := 6) (st' := [.int 1290, .int x1]) dX12_keepsRow_3 rfl ?_
  refine ex_icmp (pc' := 27) dX12_keepsRow_6 (by decide) (fun c => ?_) (fun c => ?_)
  · have h := h.1 c
    rw [h]; exact ex_ret (v := none) ⟨dX12_keepsRow_27, rfl⟩
  · have h := h.2 c
    refine ex_step (pc' := 10) dX12_keepsRow_9 rfl ?_
    refine ex_getr dX12_keepsRow_10 wf_RX12_128 (ly_a420 hL) rfl (ly_r420_55 hL) ?_
    refine ex_step (pc' := 14) dX12_keepsRow_13 rfl ?_
    refine ex_step (pc' := 15) dX12_keepsRow_14 rfl ?_
    refine ex_getr dX12_keepsRow_15 wf_RX12_131 (ly_a420 hL) rfl (ly_r420_56 hL) ?_
    refine ex_step (pc' := 19) dX12_keepsRow_18 rfl ?_
    obtain ⟨hv, h⟩ := h
    refine ex_iald dX12_keepsRow_19 (Or.inl (ly_a458 hL)) hv ?_
    obtain ⟨hv, h⟩ := h
    refine ex_iastN dX12_keepsRow_20 (ly_a457 hL) hv (fun I1 eI1 => ?_)
    have h := h I1 eI1
    refine ex_step (pc' := 24) (ls' := [some (.ref 420), some (.int (x1 + 1))]) dX12_keepsRow_21 rfl ?_
    refine ex_step (pc' := 2) dX12_keepsRow_24 rfl ?_
    exact h
set_option maxHeartbeats 4000000 in
theorem BX12_copies_0 {d : Nat} {Z : zZ} {I : zI} {J : zJ} {o : zO} {t u : Nat}  (hL : zLY Z t u)  (h : zE d kX12_copies 2 [some (.ref 420), some (.int 0)] [] Z I J o) : zE d kX12_copies 0 [some (.ref 420), none] [] Z I J o := by
  refine ex_step (pc' := 1) (st' := [.int 0]) dX12_copies_0 rfl ?_
  refine ex_step (pc' := 2) (ls' := [some (.ref 420), some (.int 0)]) dX12_copies_1 rfl ?_
  exact h
set_option maxHeartbeats 4000000 in
theorem BX12_copies_2 {d : Nat} {Z : zZ} {I : zI} {J : zJ} {o : zO} {t u : Nat} (x1 : Int32) (hL : zLY Z t u)  (h : ((1290 ≤ x1 → zE d kX12_copies 29 [some (.ref 420), some (.int 0)] [] Z I J o) ∧ (¬ 1290 ≤ x1 → (vp_in x1 1290 ∧ (vp_in x1 1290 ∧ (∀ I1 : zI, I1 = zu I 458 x1.toNatClampNeg (I 457 x1.toNatClampNeg) → zE d kX12_copies 2 [some (.ref 420), some (.int (x1 + 1))] [] Z I1 J o)))))) : zE d kX12_copies 2 [some (.ref 420), some (.int x1)] [] Z I J o := by
  refine ex_step (pc' := 3) dX12_copies_2 rfl ?_
  refine ex_step (pc' := 6) (st' := [.int 1290, .int x1]) dX12_copies_3 rfl ?_
  refine ex_icmp (pc' := 27) dX12_copies_6 (by decide) (fun c => ?_) (fun c => ?_)
  · have h := h.1 c
    refine ex_step (pc' := 28) (st' := [.int 0]) dX12_copies_27 rfl ?_
    refine ex_step (pc' := 29) (ls' := [some (.ref 420), some (.int 0)]) dX12_copies_28 rfl ?_
    exact h
  · have h := h.2 c
    refine ex_step (pc' := 10) dX12_copies_9 rfl ?_
    refine ex_getr dX12_copies_10 wf_RX12_131 (ly_a420 hL) rfl (ly_r420_56 hL) ?_
    refine ex_step (pc' := 14) dX12_copies_13 rfl ?_
    refine ex_step (pc' := 15) dX12_copies_14 rfl ?_
    refine ex_getr dX12_copies_15 wf_RX12_128 (ly_a420 hL) rfl (ly_r420_55 hL) ?_
    refine ex_step (pc' := 19) dX12_copies_18 rfl ?_
    obtain ⟨hv, h⟩ := h
    refine ex_iald dX12_copies_19 (Or.inl (ly_a457 hL)) hv ?_
    obtain ⟨hv, h⟩ := h
    refine ex_iastN dX12_copies_20 (ly_a458 hL) hv (fun I1 eI1 => ?_)
    have h := h I1 eI1
    refine ex_step (pc' := 24) (ls' := [some (.ref 420), some (.int (x1 + 1))]) dX12_copies_21 rfl ?_
    refine ex_step (pc' := 2) dX12_copies_24 rfl ?_
    exact h
set_option maxHeartbeats 4000000 in
theorem BX12_copies_29 {d : Nat} {Z : zZ} {I : zI} {J : zJ} {o : zO} {t u : Nat} (x1 : Int32) (hL : zLY Z t u)  (h : ((7 ≤ x1 → o = (none, Z, I, J)) ∧ (¬ 7 ≤ x1 → (vp_in x1 7 ∧ (∀ I1 : zI, I1 = zu I 459 x1.toNatClampNeg 0 → zE d kX12_copies 29 [some (.ref 420), some (.int (x1 + 1))] [] Z I1 J o))))) : zE d kX12_copies 29 [some (.ref 420), some (.int x1)] [] Z I J o := by
  refine ex_step (pc' := 30) dX12_copies_29 rfl ?_
  refine ex_step (pc' := 32) (st' := [.int 7, .int x1]) dX12_copies_30 rfl ?_
  refine ex_icmp (pc' := 48) dX12_copies_32 (by decide) (fun c => ?_) (fun c => ?_)
  · have h := h.1 c
    rw [h]; exact ex_ret (v := none) ⟨dX12_copies_48, rfl⟩
  · have h := h.2 c
    refine ex_step (pc' := 36) dX12_copies_35 rfl ?_
    refine ex_getr dX12_copies_36 wf_RX12_134 (ly_a420 hL) rfl (ly_r420_57 hL) ?_
    refine ex_step (pc' := 40) dX12_copies_39 rfl ?_
    refine ex_step (pc' := 41) (st' := [.int 0, .int x1, .ref 459]) dX12_copies_40 rfl ?_
    obtain ⟨hv, h⟩ := h
    refine ex_iastN dX12_copies_41 (ly_a459 hL) hv (fun I1 eI1 => ?_)
    have h := h I1 eI1
    refine ex_step (pc' := 45) (ls' := [some (.ref 420), some (.int (x1 + 1))]) dX12_copies_42 rfl ?_
    refine ex_step (pc' := 29) dX12_copies_45 rfl ?_
    exact h
set_option maxHeartbeats 4000000 in
theorem BX12_lotOf_0 {d : Nat} {Z : zZ} {I : zI} {J : zJ} {o : zO} (x0 : Int32) (x1 : Int32) (x2 : Int32)  (h : (¬ x2 = 0 ∧ o = (some (.int ((((zstir (zstir x0 28) x1).toUInt32 >>> (Int32.toUInt32 1 &&& Int32.toUInt32 31)).toInt32) - (((zstir (zstir x0 28) x1).toUInt32 >>> (Int32.toUInt32 1 &&& Int32.toUInt32 31)).toInt32) / x2 * x2)), Z, I, J))) : zE (d + 1) kX12_lotOf 0 [some (.int x0), some (.int x1), some (.int x2)] [] Z I J o := by
  refine ex_step (pc' := 1) dX12_lotOf_0 rfl ?_
  refine ex_step (pc' := 3) (st' := [.int 28, .int x0]) dX12_lotOf_1 rfl ?_
  refine ex_callS (as := [.int x0, .int 28]) (st := []) dX12_lotOf_3 zmX12_mixed zl_RX12_350 zsX12_mixed rfl (Nat.le_of_ble_eq_true rfl) (Nat.le_of_ble_eq_true rfl) M_mixed ?_
  refine ex_step (pc' := 7) dX12_lotOf_6 rfl ?_
  refine ex_callS (as := [.int (zstir x0 28), .int x1]) (st := []) dX12_lotOf_7 zmX12_mixed zl_RX12_350 zsX12_mixed rfl (Nat.le_of_ble_eq_true rfl) (Nat.le_of_ble_eq_true rfl) M_mixed ?_
  refine ex_step (pc' := 11) (st' := [.int 1, .int (zstir (zstir x0 28) x1)]) dX12_lotOf_10 rfl ?_
  refine ex_step (pc' := 12) (st' := [.int (((zstir (zstir x0 28) x1).toUInt32 >>> (Int32.toUInt32 1 &&& Int32.toUInt32 31)).toInt32)]) dX12_lotOf_11 rfl ?_
  refine ex_step (pc' := 13) dX12_lotOf_12 rfl ?_
  obtain ⟨hz, h⟩ := h
  refine ex_rem dX12_lotOf_13 hz ?_
  rw [h]; exact ex_ret (v := some (.int ((((zstir (zstir x0 28) x1).toUInt32 >>> (Int32.toUInt32 1 &&& Int32.toUInt32 31)).toInt32) - (((zstir (zstir x0 28) x1).toUInt32 >>> (Int32.toUInt32 1 &&& Int32.toUInt32 31)).toInt32) / x2 * x2))) ⟨dX12_lotOf_14, _, rfl, rfl⟩
set_option maxHeartbeats 4000000 in
theorem BX12_tellsBy_0 {d : Nat} {Z : zZ} {I : zI} {J : zJ} {o : zO} {t u : Nat} (x1 : Int32) (hL : zLY Z t u)  (h : (∀ I1 : zI, I1 = zu I 420 54 0 → (vp_in x1 16 ∧ (∀ y2 : Int32, y2 = (I1 445 x1.toNatClampNeg) → zE (d + 1) kX12_tellsBy 12 [some (.ref 420), some (.int x1), some (.int y2), none, none] [] Z I1 J o)))) : zE (d + 1) kX12_tellsBy 0 [some (.ref 420), some (.int x1), none, none, none] [] Z I J o := by
  refine ex_step (pc' := 1) dX12_tellsBy_0 rfl ?_
  refine ex_step (pc' := 2) (st' := [.int 0, .ref 420]) dX12_tellsBy_1 rfl ?_
  refine ex_putiN dX12_tellsBy_2 (wp_RX12_341 _) (ly_a420 hL) rfl ⟨rfl, rfl⟩ (fun I1 eI1 => ?_)
  have h := h I1 eI1
  refine ex_step (pc' := 6) dX12_tellsBy_5 rfl ?_
  refine ex_getr dX12_tellsBy_6 wf_RX12_91 (ly_a420 hL) rfl (ly_r420_39 hL) ?_
  refine ex_step (pc' := 10) dX12_tellsBy_9 rfl ?_
  obtain ⟨hv, h⟩ := h
  refine ex_iald dX12_tellsBy_10 (Or.inl (ly_a445 hL)) hv ?_
  refine ex_topi (fun y2 ey2 => ?_)
  have h := h y2 ey2
  refine ex_step (pc' := 12) (ls' := [some (.ref 420), some (.int x1), some (.int y2), none, none]) dX12_tellsBy_11 rfl ?_
  exact h
set_option maxHeartbeats 4000000 in
theorem BX12_tellsBy_12 {d : Nat} {Z : zZ} {I : zI} {J : zJ} {o : zO} {t u : Nat} (x1 : Int32) (x2 : Int32) (hL : zLY Z t u)  (h : (vp_in x1 16 ∧ (((I 446 x1.toNatClampNeg) ≤ x2 → o = (some (.int 0), Z, I, J)) ∧ (¬ (I 446 x1.toNatClampNeg) ≤ x2 → (vp_in x2 260 ∧ (((I 447 x2.toNatClampNeg) = 0 → (vp_in x2 260 ∧ (vp_in x2 260 ∧ (∃ (v1 : Int32) (I2 : zI), zE d kX12_termOf 0 [some (.ref 420), some (.int (I 450 x2.toNatClampNeg)), some (.int (I 451 x2.toNatClampNeg)), none, none, none, none, none] [] Z I J (some (.int v1), Z, I2, J) ∧ (((I2 420 54) = 0 → o = (some (.int v1), Z, I2, J)) ∧ (¬ (I2 420 54) = 0 → o = (some (.int 0), Z, I2, J))))))) ∧ (¬ (I 447 x2.toNatClampNeg) = 0 → (vp_in x2 260 ∧ (vp_in x2 260 ∧ (∃ (v3 : Int32) (I4 : zI), zE d kX12_termOf 0 [some (.ref 420), some (.int (I 448 x2.toNatClampNeg)), some (.int (I 449 x2.toNatClampNeg)), none, none, none, none, none] [] Z I J (some (.int v3), Z, I4, J) ∧ (vp_in x2 260 ∧ (vp_in x2 260 ∧ (∃ (v5 : Int32) (I6 : zI), zE d kX12_termOf 0 [some (.ref 420), some (.int (I4 449 x2.toNatClampNeg)), some (.int (I4 450 x2.toNatClampNeg)), none, none, none, none, none] [] Z I4 J (some (.int v5), Z, I6, J) ∧ (((I6 420 54) = 0 → ((v3 < v5 → (vp_in x2 260 ∧ (vp_in x2 260 ∧ (∃ (v7 : Int32) (I8 : zI), zE d kX12_termOf 0 [some (.ref 420), some (.int (I6 450 x2.toNatClampNeg)), some (.int (I6 451 x2.toNatClampNeg)), none, none, none, none, none] [] Z I6 J (some (.int v7), Z, I8, J) ∧ (((I8 420 54) = 0 → o = (some (.int v7), Z, I8, J)) ∧ (¬ (I8 420 54) = 0 → o = (some (.int 0), Z, I8, J))))))) ∧ (¬ v3 < v5 → zE (d + 1) kX12_tellsBy 12 [some (.ref 420), some (.int x1), some (.int (x2 + 1)), none, none] [] Z I6 J o))) ∧ (¬ (I6 420 54) = 0 → o = (some (.int 0), Z, I6, J)))))))))))))))) : zE (d + 1) kX12_tellsBy 12 [some (.ref 420), some (.int x1), some (.int x2), none, none] [] Z I J o := by
  refine ex_step (pc' := 13) dX12_tellsBy_12 rfl ?_
  refine ex_step (pc' := 14) dX12_tellsBy_13 rfl ?_
  refine ex_getr dX12_tellsBy_14 wf_RX12_94 (ly_a420 hL) rfl (ly_r420_40 hL) ?_
  refine ex_step (pc' := 18) dX12_tellsBy_17 rfl ?_
  obtain ⟨hv, h⟩ := h
  refine ex_iald dX12_tellsBy_18 (Or.inl (ly_a446 hL)) hv ?_
  refine ex_icmp (pc' := 120) dX12_tellsBy_19 (by decide) (fun c => ?_) (fun c => ?_)
  · have h := h.1 c
    refine ex_step (pc' := 121) (st' := [.int 0]) dX12_tellsBy_120 rfl ?_
    rw [h]; exact ex_ret (v := some (.int 0)) ⟨dX12_tellsBy_121, _, rfl, rfl⟩
  · have h := h.2 c
    refine ex_step (pc' := 23) dX12_tellsBy_22 rfl ?_
    refine ex_getr dX12_tellsBy_23 wf_RX12_97 (ly_a420 hL) rfl (ly_r420_42 hL) ?_
    refine ex_step (pc' := 27) dX12_tellsBy_26 rfl ?_
    obtain ⟨hv, h⟩ := h
    refine ex_bald dX12_tellsBy_27 (Or.inr (ly_a447 hL)) hv ?_
    refine ex_if (pc' := 84) dX12_tellsBy_28 (by decide) (fun c => ?_) (fun c => ?_)
    · have h := h.1 c
      refine ex_step (pc' := 85) dX12_tellsBy_84 rfl ?_
      refine ex_step (pc' := 86) dX12_tellsBy_85 rfl ?_
      refine ex_getr dX12_tellsBy_86 wf_RX12_107 (ly_a420 hL) rfl (ly_r420_45 hL) ?_
      refine ex_step (pc' := 90) dX12_tellsBy_89 rfl ?_
      obtain ⟨hv, h⟩ := h
      refine ex_iald dX12_tellsBy_90 (Or.inl (ly_a450 hL)) hv ?_
      refine ex_step (pc' := 92) dX12_tellsBy_91 rfl ?_
      refine ex_getr dX12_tellsBy_92 wf_RX12_110 (ly_a420 hL) rfl (ly_r420_46 hL) ?_
      refine ex_step (pc' := 96) dX12_tellsBy_95 rfl ?_
      obtain ⟨hv, h⟩ := h
      refine ex_iald dX12_tellsBy_96 (Or.inl (ly_a451 hL)) hv ?_
      obtain ⟨v1, I2, hc, h⟩ := h
      refine ex_callV (as := [.int (I 450 x2.toNatClampNeg), .int (I 451 x2.toNatClampNeg)]) (st := []) (ci := 12) dX12_tellsBy_97 zmX12_termOf zl_RX12_353 ziX12_termOf zvX12_termOf (by decide) (ly_a420 hL) rfl (Nat.le_of_ble_eq_true rfl) (Nat.le_of_ble_eq_true rfl) hc ?_
      refine ex_step (pc' := 101) (ls' := [some (.ref 420), some (.int x1), some (.int x2), some (.int v1), none]) dX12_tellsBy_100 rfl ?_
      refine ex_step (pc' := 102) dX12_tellsBy_101 rfl ?_
      refine ex_geti dX12_tellsBy_102 wf_RX12_341 (ly_a420 hL) rfl ?_
      refine ex_if (pc' := 112) dX12_tellsBy_105 (by decide) (fun c => ?_) (fun c => ?_)
      · have h := h.1 c
        refine ex_step (pc' := 113) dX12_tellsBy_112 rfl ?_
        rw [h]; exact ex_ret (v := some (.int v1)) ⟨dX12_tellsBy_113, _, rfl, rfl⟩
      · have h := h.2 c
        refine ex_step (pc' := 109) (st' := [.int 0]) dX12_tellsBy_108 rfl ?_
        refine ex_step (pc' := 113) dX12_tellsBy_109 rfl ?_
        rw [h]; exact ex_ret (v := some (.int 0)) ⟨dX12_tellsBy_113, _, rfl, rfl⟩
    · have h := h.2 c
      refine ex_step (pc' := 32) dX12_tellsBy_31 rfl ?_
      refine ex_step (pc' := 33) dX12_tellsBy_32 rfl ?_
      refine ex_getr dX12_tellsBy_33 wf_RX12_101 (ly_a420 hL) rfl (ly_r420_43 hL) ?_
      refine ex_step (pc' := 37) dX12_tellsBy_36 rfl ?_
      obtain ⟨hv, h⟩ := h
      refine ex_iald dX12_tellsBy_37 (Or.inl (ly_a448 hL)) hv ?_
      refine ex_step (pc' := 39) dX12_tellsBy_38 rfl ?_
      refine ex_getr dX12_tellsBy_39 wf_RX12_104 (ly_a420 hL) rfl (ly_r420_44 hL) ?_
      refine ex_step (pc' := 43) dX12_tellsBy_42 rfl ?_
      obtain ⟨hv, h⟩ := h
      refine ex_iald dX12_tellsBy_43 (Or.inl (ly_a449 hL)) hv ?_
      obtain ⟨v3, I4, hc, h⟩ := h
      refine ex_callV (as := [.int (I 448 x2.toNatClampNeg), .int (I 449 x2.toNatClampNeg)]) (st := []) (ci := 12) dX12_tellsBy_44 zmX12_termOf zl_RX12_353 ziX12_termOf zvX12_termOf (by decide) (ly_a420 hL) rfl (Nat.le_of_ble_eq_true rfl) (Nat.le_of_ble_eq_true rfl) hc ?_
      refine ex_step (pc' := 48) (ls' := [some (.ref 420), some (.int x1), some (.int x2), some (.int v3), none]) dX12_tellsBy_47 rfl ?_
      refine ex_step (pc' := 49) dX12_tellsBy_48 rfl ?_
      refine ex_step (pc' := 50) dX12_tellsBy_49 rfl ?_
      refine ex_getr dX12_tellsBy_50 wf_RX12_104 (ly_a420 hL) rfl (ly_r420_44 hL) ?_
      refine ex_step (pc' := 54) dX12_tellsBy_53 rfl ?_
      obtain ⟨hv, h⟩ := h
      refine ex_iald dX12_tellsBy_54 (Or.inl (ly_a449 hL)) hv ?_
      refine ex_step (pc' := 56) dX12_tellsBy_55 rfl ?_
      refine ex_getr dX12_tellsBy_56 wf_RX12_107 (ly_a420 hL) rfl (ly_r420_45 hL) ?_
      refine ex_step (pc' := 60) dX12_tellsBy_59 rfl ?_
      obtain ⟨hv, h⟩ := h
      refine ex_iald dX12_tellsBy_60 (Or.inl (ly_a450 hL)) hv ?_
      obtain ⟨v5, I6, hc, h⟩ := h
      refine ex_callV (as := [.int (I4 449 x2.toNatClampNeg), .int (I4 450 x2.toNatClampNeg)]) (st := []) (ci := 12) dX12_tellsBy_61 zmX12_termOf zl_RX12_353 ziX12_termOf zvX12_termOf (by decide) (ly_a420 hL) rfl (Nat.le_of_ble_eq_true rfl) (Nat.le_of_ble_eq_true rfl) hc ?_
      refine ex_step (pc' := 66) (ls' := [some (.ref 420), some (.int x1), some (.int x2), some (.int v3), some (.int v5)]) dX12_tellsBy_64 rfl ?_
      refine ex_step (pc' := 67) dX12_tellsBy_66 rfl ?_
      refine ex_geti dX12_tellsBy_67 wf_RX12_341 (ly_a420 hL) rfl ?_
      refine ex_if (pc' := 75) dX12_tellsBy_70 (by decide) (fun c => ?_) (fun c => ?_)
      · have h := h.1 c
        refine ex_step (pc' := 76) dX12_tellsBy_75 rfl ?_
        refine ex_step (pc' := 78) dX12_tellsBy_76 rfl ?_
        refine ex_icmp (pc' := 84) dX12_tellsBy_78 (by decide) (fun c => ?_) (fun c => ?_)
        · have h := h.1 c
          refine ex_step (pc' := 85) dX12_tellsBy_84 rfl ?_
          refine ex_step (pc' := 86) dX12_tellsBy_85 rfl ?_
          refine ex_getr dX12_tellsBy_86 wf_RX12_107 (ly_a420 hL) rfl (ly_r420_45 hL) ?_
          refine ex_step (pc' := 90) dX12_tellsBy_89 rfl ?_
          obtain ⟨hv, h⟩ := h
          refine ex_iald dX12_tellsBy_90 (Or.inl (ly_a450 hL)) hv ?_
          refine ex_step (pc' := 92) dX12_tellsBy_91 rfl ?_
          refine ex_getr dX12_tellsBy_92 wf_RX12_110 (ly_a420 hL) rfl (ly_r420_46 hL) ?_
          refine ex_step (pc' := 96) dX12_tellsBy_95 rfl ?_
          obtain ⟨hv, h⟩ := h
          refine ex_iald dX12_tellsBy_96 (Or.inl (ly_a451 hL)) hv ?_
          obtain ⟨v7, I8, hc, h⟩ := h
          refine ex_callV (as := [.int (I6 450 x2.toNatClampNeg), .int (I6 451 x2.toNatClampNeg)]) (st := []) (ci := 12) dX12_tellsBy_97 zmX12_termOf zl_RX12_353 ziX12_termOf zvX12_termOf (by decide) (ly_a420 hL) rfl (Nat.le_of_ble_eq_true rfl) (Nat.le_of_ble_eq_true rfl) hc ?_
          refine ex_step (pc' := 101) (ls' := [some (.ref 420), some (.int x1), some (.int x2), some (.int v7), some (.int v5)]) dX12_tellsBy_100 rfl ?_
          refine ex_step (pc' := 102) dX12_tellsBy_101 rfl ?_
          refine ex_geti dX12_tellsBy_102 wf_RX12_341 (ly_a420 hL) rfl ?_
          refine ex_if (pc' := 112) dX12_tellsBy_105 (by decide) (fun c => ?_) (fun c => ?_)
          · have h := h.1 c
            refine ex_step (pc' := 113) dX12_tellsBy_112 rfl ?_
            rw [h]; exact ex_ret (v := some (.int v7)) ⟨dX12_tellsBy_113, _, rfl, rfl⟩
          · have h := h.2 c
            refine ex_step (pc' := 109) (st' := [.int 0]) dX12_tellsBy_108 rfl ?_
            refine ex_step (pc' := 113) dX12_tellsBy_109 rfl ?_
            rw [h]; exact ex_ret (v := some (.int 0)) ⟨dX12_tellsBy_113, _, rfl, rfl⟩
        · have h := h.2 c
          refine ex_step (pc' := 114) dX12_tellsBy_81 rfl ?_
          refine ex_step (pc' := 117) (ls' := [some (.ref 420), some (.int x1), some (.int (x2 + 1)), some (.int v3), some (.int v5)]) dX12_tellsBy_114 rfl ?_
          refine ex_step (pc' := 12) dX12_tellsBy_117 rfl ?_
          exact ex_less (ls' := [some (.ref 420), some (.int x1), some (.int (x2 + 1)), none, none]) ⟨rfl, ⟨rfl, ⟨rfl, trivial⟩⟩⟩ h
      · have h := h.2 c
        refine ex_step (pc' := 74) (st' := [.int 0]) dX12_tellsBy_73 rfl ?_
        rw [h]; exact ex_ret (v := some (.int 0)) ⟨dX12_tellsBy_74, _, rfl, rfl⟩
set_option maxHeartbeats 4000000 in
theorem BX12_longOf_0 {d : Nat} {Z : zZ} {I : zI} {J : zJ} {o : zO} {t u : Nat} (x1 : Int32) (hL : zLY Z t u)  (h : (∀ y1 : Int32, y1 = (((8 : Int32) * (I 420 18)) + 7) → (vp_in y1 16 ∧ (vp_in y1 16 ∧ ((¬ (I 445 y1.toNatClampNeg) = (I 446 y1.toNatClampNeg) → zE (d + 2) kX12_longOf 31 [some (.ref 420), some (.int x1), some (.int y1), some (.int 0)] [] Z I J o) ∧ ((I 445 y1.toNatClampNeg) = (I 446 y1.toNatClampNeg) → o = (some (.int 30), Z, I, J))))))) : zE (d + 2) kX12_longOf 0 [some (.ref 420), some (.int x1), none, none] [] Z I J o := by
  refine ex_step (pc' := 2) (st' := [.int 8]) dX12_longOf_0 rfl ?_
  refine ex_step (pc' := 3) dX12_longOf_2 rfl ?_
  refine ex_geti dX12_longOf_3 wf_RX12_258 (ly_a420 hL) rfl ?_
  refine ex_step (pc' := 7) dX12_longOf_6 rfl ?_
  refine ex_step (pc' := 9) (st' := [.int 7, .int ((8 : Int32) * (I 420 18))]) dX12_longOf_7 rfl ?_
  refine ex_step (pc' := 10) dX12_longOf_9 rfl ?_
  refine ex_topi (fun y1 ey1 => ?_)
  have h := h y1 ey1
  refine ex_step (pc' := 11) (ls' := [some (.ref 420), some (.int x1), some (.int y1), none]) dX12_longOf_10 rfl ?_
  refine ex_step (pc' := 12) dX12_longOf_11 rfl ?_
  refine ex_getr dX12_longOf_12 wf_RX12_91 (ly_a420 hL) rfl (ly_r420_39 hL) ?_
  refine ex_step (pc' := 16) dX12_longOf_15 rfl ?_
  obtain ⟨hv, h⟩ := h
  refine ex_iald dX12_longOf_16 (Or.inl (ly_a445 hL)) hv ?_
  refine ex_step (pc' := 18) dX12_longOf_17 rfl ?_
  refine ex_getr dX12_longOf_18 wf_RX12_94 (ly_a420 hL) rfl (ly_r420_40 hL) ?_
  refine ex_step (pc' := 22) dX12_longOf_21 rfl ?_
  obtain ⟨hv, h⟩ := h
  refine ex_iald dX12_longOf_22 (Or.inl (ly_a446 hL)) hv ?_
  refine ex_icmp (pc' := 29) dX12_longOf_23 (by decide) (fun c => ?_) (fun c => ?_)
  · have h := h.1 c
    refine ex_step (pc' := 30) (st' := [.int 0]) dX12_longOf_29 rfl ?_
    refine ex_step (pc' := 31) (ls' := [some (.ref 420), some (.int x1), some (.int y1), some (.int 0)]) dX12_longOf_30 rfl ?_
    exact h
  · have h := h.2 (Classical.not_not.mp c)
    refine ex_step (pc' := 28) (st' := [.int 30]) dX12_longOf_26 rfl ?_
    rw [h]; exact ex_ret (v := some (.int 30)) ⟨dX12_longOf_28, _, rfl, rfl⟩
set_option maxHeartbeats 4000000 in
theorem BX12_longOf_31 {d : Nat} {Z : zZ} {I : zI} {J : zJ} {o : zO} {t u : Nat} (x1 : Int32) (x2 : Int32) (x3 : Int32) (hL : zLY Z t u)  (h : ((6 ≤ x3 → (vp_in (((7 : Int32) * (I 420 18)) + x1) 14 ∧ (∀ I1 : zI, I1 = zu I 455 0 (I 432 (((7 : Int32) * (I 420 18)) + x1).toNatClampNeg) → (vp_in (((7 : Int32) * (I1 420 18)) + x1) 14 ∧ (∀ I2 : zI, I2 = zu I1 455 1 (I1 433 (((7 : Int32) * (I1 420 18)) + x1).toNatClampNeg) → (∀ I3 : zI, I3 = zu I2 455 5 x1 → (∃ (v4 : Int32) (I5 : zI), zE (d + 1) kX12_tellsBy 0 [some (.ref 420), some (.int x2), none, none, none] [] Z I3 J (some (.int v4), Z, I5, J) ∧ ((0 ≤ v4 → ((v4 ≤ 60 → o = (some (.int v4), Z, I5, J)) ∧ (¬ v4 ≤ 60 → o = (some (.int 60), Z, I5, J)))) ∧ (¬ 0 ≤ v4 → o = (some (.int 0), Z, I5, J)))))))))) ∧ (¬ 6 ≤ x3 → (vp_in x3 6 ∧ (∀ I6 : zI, I6 = zu I 455 x3.toNatClampNeg 0 → zE (d + 2) kX12_longOf 31 [some (.ref 420), some (.int x1), some (.int x2), some (.int (x3 + 1))] [] Z I6 J o))))) : zE (d + 2) kX12_longOf 31 [some (.ref 420), some (.int x1), some (.int x2), some (.int x3)] [] Z I J o := by
  refine ex_step (pc' := 32) dX12_longOf_31 rfl ?_
  refine ex_step (pc' := 34) (st' := [.int 6, .int x3]) dX12_longOf_32 rfl ?_
  refine ex_icmp (pc' := 50) dX12_longOf_34 (by decide) (fun c => ?_) (fun c => ?_)
  · have h := h.1 c
    refine ex_step (pc' := 51) dX12_longOf_50 rfl ?_
    refine ex_getr dX12_longOf_51 wf_RX12_122 (ly_a420 hL) rfl (ly_r420_52 hL) ?_
    refine ex_step (pc' := 55) (st' := [.int 0, .ref 455]) dX12_longOf_54 rfl ?_
    refine ex_step (pc' := 56) dX12_longOf_55 rfl ?_
    refine ex_getr dX12_longOf_56 wf_RX12_52 (ly_a420 hL) rfl (ly_r420_25 hL) ?_
    refine ex_step (pc' := 61) (st' := [.int 7, .ref 432, .int 0, .ref 455]) dX12_longOf_59 rfl ?_
    refine ex_step (pc' := 62) dX12_longOf_61 rfl ?_
    refine ex_geti dX12_longOf_62 wf_RX12_258 (ly_a420 hL) rfl ?_
    refine ex_step (pc' := 66) dX12_longOf_65 rfl ?_
    refine ex_step (pc' := 67) dX12_longOf_66 rfl ?_
    refine ex_step (pc' := 68) dX12_longOf_67 rfl ?_
    obtain ⟨hv, h⟩ := h
    refine ex_iald dX12_longOf_68 (Or.inl (ly_a432 hL)) hv ?_
    have hv : vp_in 0 6 := by unfold vp_in; decide
    refine ex_iastN dX12_longOf_69 (ly_a455 hL) hv (fun I1 eI1 => ?_)
    have h := h I1 eI1
    refine ex_step (pc' := 71) dX12_longOf_70 rfl ?_
    refine ex_getr dX12_longOf_71 wf_RX12_122 (ly_a420 hL) rfl (ly_r420_52 hL) ?_
    refine ex_step (pc' := 75) (st' := [.int 1, .ref 455]) dX12_longOf_74 rfl ?_
    refine ex_step (pc' := 76) dX12_longOf_75 rfl ?_
    refine ex_getr dX12_longOf_76 wf_RX12_55 (ly_a420 hL) rfl (ly_r420_26 hL) ?_
    refine ex_step (pc' := 81) (st' := [.int 7, .ref 433, .int 1, .ref 455]) dX12_longOf_79 rfl ?_
    refine ex_step (pc' := 82) dX12_longOf_81 rfl ?_
    refine ex_geti dX12_longOf_82 wf_RX12_258 (ly_a420 hL) rfl ?_
    refine ex_step (pc' := 86) dX12_longOf_85 rfl ?_
    refine ex_step (pc' := 87) dX12_longOf_86 rfl ?_
    refine ex_step (pc' := 88) dX12_longOf_87 rfl ?_
    obtain ⟨hv, h⟩ := h
    refine ex_iald dX12_longOf_88 (Or.inl (ly_a433 hL)) hv ?_
    have hv : vp_in 1 6 := by unfold vp_in; decide
    refine ex_iastN dX12_longOf_89 (ly_a455 hL) hv (fun I2 eI2 => ?_)
    have h := h I2 eI2
    refine ex_step (pc' := 91) dX12_longOf_90 rfl ?_
    refine ex_getr dX12_longOf_91 wf_RX12_122 (ly_a420 hL) rfl (ly_r420_52 hL) ?_
    refine ex_step (pc' := 95) (st' := [.int 5, .ref 455]) dX12_longOf_94 rfl ?_
    refine ex_step (pc' := 96) dX12_longOf_95 rfl ?_
    have hv : vp_in 5 6 := by unfold vp_in; decide
    refine ex_iastN dX12_longOf_96 (ly_a455 hL) hv (fun I3 eI3 => ?_)
    have h := h I3 eI3
    refine ex_step (pc' := 98) dX12_longOf_97 rfl ?_
    refine ex_step (pc' := 99) dX12_longOf_98 rfl ?_
    obtain ⟨v4, I5, hc, h⟩ := h
    refine ex_callV (as := [.int x2]) (st := []) (ci := 12) dX12_longOf_99 zmX12_tellsBy zl_RX12_356 ziX12_tellsBy zvX12_tellsBy (by decide) (ly_a420 hL) rfl (Nat.le_of_ble_eq_true rfl) (Nat.le_of_ble_eq_true rfl) hc ?_
    refine ex_step (pc' := 103) (ls' := [some (.ref 420), some (.int x1), some (.int x2), some (.int v4)]) dX12_longOf_102 rfl ?_
    refine ex_step (pc' := 104) dX12_longOf_103 rfl ?_
    refine ex_if (pc' := 111) dX12_longOf_104 (by decide) (fun c => ?_) (fun c => ?_)
    · have h := h.1 c
      refine ex_step (pc' := 112) dX12_longOf_111 rfl ?_
      refine ex_step (pc' := 114) (st' := [.int 60, .int v4]) dX12_longOf_112 rfl ?_
      refine ex_icmp (pc' := 122) dX12_longOf_114 (by decide) (fun c => ?_) (fun c => ?_)
      · have h := h.1 c
        refine ex_step (pc' := 123) dX12_longOf_122 rfl ?_
        rw [h]; exact ex_ret (v := some (.int v4)) ⟨dX12_longOf_123, _, rfl, rfl⟩
      · have h := h.2 c
        refine ex_step (pc' := 119) (st' := [.int 60]) dX12_longOf_117 rfl ?_
        refine ex_step (pc' := 123) dX12_longOf_119 rfl ?_
        rw [h]; exact ex_ret (v := some (.int 60)) ⟨dX12_longOf_123, _, rfl, rfl⟩
    · have h := h.2 c
      refine ex_step (pc' := 108) (st' := [.int 0]) dX12_longOf_107 rfl ?_
      refine ex_step (pc' := 123) dX12_longOf_108 rfl ?_
      rw [h]; exact ex_ret (v := some (.int 0)) ⟨dX12_longOf_123, _, rfl, rfl⟩
  · have h := h.2 c
    refine ex_step (pc' := 38) dX12_longOf_37 rfl ?_
    refine ex_getr dX12_longOf_38 wf_RX12_122 (ly_a420 hL) rfl (ly_r420_52 hL) ?_
    refine ex_step (pc' := 42) dX12_longOf_41 rfl ?_
    refine ex_step (pc' := 43) (st' := [.int 0, .int x3, .ref 455]) dX12_longOf_42 rfl ?_
    obtain ⟨hv, h⟩ := h
    refine ex_iastN dX12_longOf_43 (ly_a455 hL) hv (fun I6 eI6 => ?_)
    have h := h I6 eI6
    refine ex_step (pc' := 47) (ls' := [some (.ref 420), some (.int x1), some (.int x2), some (.int (x3 + 1))]) dX12_longOf_44 rfl ?_
    refine ex_step (pc' := 31) dX12_longOf_47 rfl ?_
    exact h
set_option maxHeartbeats 4000000 in
theorem BX12_leftOf_0 {d : Nat} {Z : zZ} {I : zI} {J : zJ} {o : zO} {t u : Nat} (x1 : Int32) (hL : zLY Z t u)  (h : (∃ (v1 : Int32) (I2 : zI), zE (d + 2) kX12_longOf 0 [some (.ref 420), some (.int x1), none, none] [] Z I J (some (.int v1), Z, I2, J) ∧ (vp_in ((14 : Int32) + x1) 1290 ∧ o = (some (.int (v1 - (I2 458 ((14 : Int32) + x1).toNatClampNeg))), Z, I2, J)))) : zE (d + 3) kX12_leftOf 0 [some (.ref 420), some (.int x1)] [] Z I J o := by
  refine ex_step (pc' := 1) dX12_leftOf_0 rfl ?_
  refine ex_step (pc' := 2) dX12_leftOf_1 rfl ?_
  obtain ⟨v1, I2, hc, h⟩ := h
  refine ex_callV (as := [.int x1]) (st := []) (ci := 12) dX12_leftOf_2 zmX12_longOf zl_RX12_359 ziX12_longOf zvX12_longOf (by decide) (ly_a420 hL) rfl (Nat.le_of_ble_eq_true rfl) (Nat.le_of_ble_eq_true rfl) hc ?_
  refine ex_step (pc' := 6) dX12_leftOf_5 rfl ?_
  refine ex_getr dX12_leftOf_6 wf_RX12_131 (ly_a420 hL) rfl (ly_r420_56 hL) ?_
  refine ex_step (pc' := 11) (st' := [.int 14, .ref 458, .int v1]) dX12_leftOf_9 rfl ?_
  refine ex_step (pc' := 12) dX12_leftOf_11 rfl ?_
  refine ex_step (pc' := 13) dX12_leftOf_12 rfl ?_
  obtain ⟨hv, h⟩ := h
  refine ex_iald dX12_leftOf_13 (Or.inl (ly_a458 hL)) hv ?_
  refine ex_step (pc' := 15) dX12_leftOf_14 rfl ?_
  rw [h]; exact ex_ret (v := some (.int (v1 - (I2 458 ((14 : Int32) + x1).toNatClampNeg)))) ⟨dX12_leftOf_15, _, rfl, rfl⟩
set_option maxHeartbeats 4000000 in
theorem BX12_goesOf_0 {d : Nat} {Z : zZ} {I : zI} {J : zJ} {o : zO} {t u : Nat} (x1 : Int32) (hL : zLY Z t u)  (h : (vp_in x1 7 ∧ (∀ y1 : Int32, y1 = ((I 458 28) - (I 459 x1.toNatClampNeg)) → (∃ (v2 : Int32) (I3 : zI), zE (d + 3) kX12_leftOf 0 [some (.ref 420), some (.int x1)] [] Z I J (some (.int v2), Z, I3, J) ∧ (vp_in x1 1290 ∧ (∀ I4 : zI, I4 = zu I3 455 0 (I3 458 x1.toNatClampNeg) → (vp_in ((7 : Int32) + x1) 1290 ∧ (∀ I5 : zI, I5 = zu I4 455 1 (I4 458 ((7 : Int32) + x1).toNatClampNeg) → (∀ I6 : zI, I6 = zu I5 455 2 y1 → (∀ I7 : zI, I7 = zu I6 455 3 v2 → (vp_in (I7 420 18) 2 ∧ (∃ (v8 : Int32), zE (d + 3) kX12_lotOf 0 [some (.int (I7 441 (I7 420 18).toNatClampNeg)), some (.int (((8 : Int32) * y1) + x1)), some (.int 100)] [] Z I7 J (some (.int v8), Z, I7, J) ∧ (∀ I9 : zI, I9 = zu I7 455 4 v8 → (∀ I10 : zI, I10 = zu I9 455 5 x1 → (∃ (v11 : Int32) (I12 : zI), zE (d + 3) kX12_tellsBy 0 [some (.ref 420), some (.int (((8 : Int32) * (I10 420 18)) + x1)), none, none, none] [] Z I10 J (some (.int v11), Z, I12, J) ∧ ((0 ≤ v11 → o = (some (.int (v11 - v11 / 6 * 6)), Z, I12, J)) ∧ (¬ 0 ≤ v11 → o = (some (.int 0), Z, I12, J)))))))))))))))))) : zE (d + 4) kX12_goesOf 0 [some (.ref 420), some (.int x1), none, none, none] [] Z I J o := by
  refine ex_step (pc' := 1) dX12_goesOf_0 rfl ?_
  refine ex_getr dX12_goesOf_1 wf_RX12_131 (ly_a420 hL) rfl (ly_r420_56 hL) ?_
  refine ex_step (pc' := 6) (st' := [.int 28, .ref 458]) dX12_goesOf_4 rfl ?_
  have hv : vp_in 28 1290 := by unfold vp_in; decide
  refine ex_iald dX12_goesOf_6 (Or.inl (ly_a458 hL)) hv ?_
  refine ex_step (pc' := 8) dX12_goesOf_7 rfl ?_
  refine ex_getr dX12_goesOf_8 wf_RX12_134 (ly_a420 hL) rfl (ly_r420_57 hL) ?_
  refine ex_step (pc' := 12) dX12_goesOf_11 rfl ?_
  obtain ⟨hv, h⟩ := h
  refine ex_iald dX12_goesOf_12 (Or.inl (ly_a459 hL)) hv ?_
  refine ex_step (pc' := 14) dX12_goesOf_13 rfl ?_
  refine ex_topi (fun y1 ey1 => ?_)
  have h := h y1 ey1
  refine ex_step (pc' := 15) (ls' := [some (.ref 420), some (.int x1), some (.int y1), none, none]) dX12_goesOf_14 rfl ?_
  refine ex_step (pc' := 16) dX12_goesOf_15 rfl ?_
  refine ex_step (pc' := 17) dX12_goesOf_16 rfl ?_
  obtain ⟨v2, I3, hc, h⟩ := h
  refine ex_callV (as := [.int x1]) (st := []) (ci := 12) dX12_goesOf_17 zmX12_leftOf zl_RX12_362 ziX12_leftOf zvX12_leftOf (by decide) (ly_a420 hL) rfl (Nat.le_of_ble_eq_true rfl) (Nat.le_of_ble_eq_true rfl) hc ?_
  refine ex_step (pc' := 21) (ls' := [some (.ref 420), some (.int x1), some (.int y1), some (.int v2), none]) dX12_goesOf_20 rfl ?_
  refine ex_step (pc' := 22) dX12_goesOf_21 rfl ?_
  refine ex_getr dX12_goesOf_22 wf_RX12_122 (ly_a420 hL) rfl (ly_r420_52 hL) ?_
  refine ex_step (pc' := 26) (st' := [.int 0, .ref 455]) dX12_goesOf_25 rfl ?_
  refine ex_step (pc' := 27) dX12_goesOf_26 rfl ?_
  refine ex_getr dX12_goesOf_27 wf_RX12_131 (ly_a420 hL) rfl (ly_r420_56 hL) ?_
  refine ex_step (pc' := 31) dX12_goesOf_30 rfl ?_
  obtain ⟨hv, h⟩ := h
  refine ex_iald dX12_goesOf_31 (Or.inl (ly_a458 hL)) hv ?_
  have hv : vp_in 0 6 := by unfold vp_in; decide
  refine ex_iastN dX12_goesOf_32 (ly_a455 hL) hv (fun I4 eI4 => ?_)
  have h := h I4 eI4
  refine ex_step (pc' := 34) dX12_goesOf_33 rfl ?_
  refine ex_getr dX12_goesOf_34 wf_RX12_122 (ly_a420 hL) rfl (ly_r420_52 hL) ?_
  refine ex_step (pc' := 38) (st' := [.int 1, .ref 455]) dX12_goesOf_37 rfl ?_
  refine ex_step (pc' := 39) dX12_goesOf_38 rfl ?_
  refine ex_getr dX12_goesOf_39 wf_RX12_131 (ly_a420 hL) rfl (ly_r420_56 hL) ?_
  refine ex_step (pc' := 44) (st' := [.int 7, .ref 458, .int 1, .ref 455]) dX12_goesOf_42 rfl ?_
  refine ex_step (pc' := 45) dX12_goesOf_44 rfl ?_
  refine ex_step (pc' := 46) dX12_goesOf_45 rfl ?_
  obtain ⟨hv, h⟩ := h
  refine ex_iald dX12_goesOf_46 (Or.inl (ly_a458 hL)) hv ?_
  have hv : vp_in 1 6 := by unfold vp_in; decide
  refine ex_iastN dX12_goesOf_47 (ly_a455 hL) hv (fun I5 eI5 => ?_)
  have h := h I5 eI5
  refine ex_step (pc' := 49) dX12_goesOf_48 rfl ?_
  refine ex_getr dX12_goesOf_49 wf_RX12_122 (ly_a420 hL) rfl (ly_r420_52 hL) ?_
  refine ex_step (pc' := 53) (st' := [.int 2, .ref 455]) dX12_goesOf_52 rfl ?_
  refine ex_step (pc' := 54) dX12_goesOf_53 rfl ?_
  have hv : vp_in 2 6 := by unfold vp_in; decide
  refine ex_iastN dX12_goesOf_54 (ly_a455 hL) hv (fun I6 eI6 => ?_)
  have h := h I6 eI6
  refine ex_step (pc' := 56) dX12_goesOf_55 rfl ?_
  refine ex_getr dX12_goesOf_56 wf_RX12_122 (ly_a420 hL) rfl (ly_r420_52 hL) ?_
  refine ex_step (pc' := 60) (st' := [.int 3, .ref 455]) dX12_goesOf_59 rfl ?_
  refine ex_step (pc' := 61) dX12_goesOf_60 rfl ?_
  have hv : vp_in 3 6 := by unfold vp_in; decide
  refine ex_iastN dX12_goesOf_61 (ly_a455 hL) hv (fun I7 eI7 => ?_)
  have h := h I7 eI7
  refine ex_step (pc' := 63) dX12_goesOf_62 rfl ?_
  refine ex_getr dX12_goesOf_63 wf_RX12_122 (ly_a420 hL) rfl (ly_r420_52 hL) ?_
  refine ex_step (pc' := 67) (st' := [.int 4, .ref 455]) dX12_goesOf_66 rfl ?_
  refine ex_step (pc' := 68) dX12_goesOf_67 rfl ?_
  refine ex_getr dX12_goesOf_68 wf_RX12_79 (ly_a420 hL) rfl (ly_r420_34 hL) ?_
  refine ex_step (pc' := 72) dX12_goesOf_71 rfl ?_
  refine ex_geti dX12_goesOf_72 wf_RX12_258 (ly_a420 hL) rfl ?_
  obtain ⟨hv, h⟩ := h
  refine ex_iald dX12_goesOf_75 (Or.inl (ly_a441 hL)) hv ?_
  refine ex_step (pc' := 78) (st' := [.int 8, .int (I7 441 (I7 420 18).toNatClampNeg), .int 4, .ref 455]) dX12_goesOf_76 rfl ?_
  refine ex_step (pc' := 79) dX12_goesOf_78 rfl ?_
  refine ex_step (pc' := 80) dX12_goesOf_79 rfl ?_
  refine ex_step (pc' := 81) dX12_goesOf_80 rfl ?_
  refine ex_step (pc' := 82) dX12_goesOf_81 rfl ?_
  refine ex_step (pc' := 84) (st' := [.int 100, .int (((8 : Int32) * y1) + x1), .int (I7 441 (I7 420 18).toNatClampNeg), .int 4, .ref 455]) dX12_goesOf_82 rfl ?_
  obtain ⟨v8, hc, h⟩ := h
  refine ex_callS (as := [.int (I7 441 (I7 420 18).toNatClampNeg), .int (((8 : Int32) * y1) + x1), .int 100]) (st := [.int 4, .ref 455]) dX12_goesOf_84 zmX12_lotOf zl_RX12_365 zsX12_lotOf rfl (Nat.le_of_ble_eq_true rfl) (Nat.le_of_ble_eq_true rfl) hc ?_
  have hv : vp_in 4 6 := by unfold vp_in; decide
  refine ex_iastN dX12_goesOf_87 (ly_a455 hL) hv (fun I9 eI9 => ?_)
  have h := h I9 eI9
  refine ex_step (pc' := 89) dX12_goesOf_88 rfl ?_
  refine ex_getr dX12_goesOf_89 wf_RX12_122 (ly_a420 hL) rfl (ly_r420_52 hL) ?_
  refine ex_step (pc' := 93) (st' := [.int 5, .ref 455]) dX12_goesOf_92 rfl ?_
  refine ex_step (pc' := 94) dX12_goesOf_93 rfl ?_
  have hv : vp_in 5 6 := by unfold vp_in; decide
  refine ex_iastN dX12_goesOf_94 (ly_a455 hL) hv (fun I10 eI10 => ?_)
  have h := h I10 eI10
  refine ex_step (pc' := 96) dX12_goesOf_95 rfl ?_
  refine ex_step (pc' := 98) (st' := [.int 8, .ref 420]) dX12_goesOf_96 rfl ?_
  refine ex_step (pc' := 99) dX12_goesOf_98 rfl ?_
  refine ex_geti dX12_goesOf_99 wf_RX12_258 (ly_a420 hL) rfl ?_
  refine ex_step (pc' := 103) dX12_goesOf_102 rfl ?_
  refine ex_step (pc' := 104) dX12_goesOf_103 rfl ?_
  refine ex_step (pc' := 105) dX12_goesOf_104 rfl ?_
  obtain ⟨v11, I12, hc, h⟩ := h
  refine ex_callV (as := [.int (((8 : Int32) * (I10 420 18)) + x1)]) (st := []) (ci := 12) dX12_goesOf_105 zmX12_tellsBy zl_RX12_356 ziX12_tellsBy zvX12_tellsBy (by decide) (ly_a420 hL) rfl (Nat.le_of_ble_eq_true rfl) (Nat.le_of_ble_eq_true rfl) hc ?_
  refine ex_step (pc' := 110) (ls' := [some (.ref 420), some (.int x1), some (.int y1), some (.int v2), some (.int v11)]) dX12_goesOf_108 rfl ?_
  refine ex_step (pc' := 112) dX12_goesOf_110 rfl ?_
  refine ex_if (pc' := 119) dX12_goesOf_112 (by decide) (fun c => ?_) (fun c => ?_)
  · have h := h.1 c
    refine ex_step (pc' := 121) dX12_goesOf_119 rfl ?_
    refine ex_step (pc' := 123) (st' := [.int 6, .int v11]) dX12_goesOf_121 rfl ?_
    refine ex_rem dX12_goesOf_123 (by decide) ?_
    rw [h]; exact ex_ret (v := some (.int (v11 - v11 / 6 * 6))) ⟨dX12_goesOf_124, _, rfl, rfl⟩
  · have h := h.2 c
    refine ex_step (pc' := 116) (st' := [.int 0]) dX12_goesOf_115 rfl ?_
    refine ex_step (pc' := 124) dX12_goesOf_116 rfl ?_
    rw [h]; exact ex_ret (v := some (.int 0)) ⟨dX12_goesOf_124, _, rfl, rfl⟩
set_option maxHeartbeats 4000000 in
theorem BX12_isCorner_0 {d : Nat} {Z : zZ} {I : zI} {J : zJ} {o : zO} {t u : Nat} (x1 : Int32) (x2 : Int32) (hL : zLY Z t u)  (h : (vp_in (I 420 18) 2 ∧ (((zbi (0 ≤ x1 ∧ x1 ≤ ((I 429 (I 420 18).toNatClampNeg) - 1))) = 0 → o = (some (.int 0), Z, I, J)) ∧ (¬ (zbi (0 ≤ x1 ∧ x1 ≤ ((I 429 (I 420 18).toNatClampNeg) - 1))) = 0 → (vp_in (I 420 18) 2 ∧ (((zbi (0 ≤ x2 ∧ x2 ≤ ((I 430 (I 420 18).toNatClampNeg) - 1))) = 0 → o = (some (.int 0), Z, I, J)) ∧ (¬ (zbi (0 ≤ x2 ∧ x2 ≤ ((I 430 (I 420 18).toNatClampNeg) - 1))) = 0 → o = (some (.int 1), Z, I, J)))))))) : zE (d + 1) kX12_isCorner 0 [some (.ref 420), some (.int x1), some (.int x2)] [] Z I J o := by
  refine ex_step (pc' := 1) dX12_isCorner_0 rfl ?_
  refine ex_step (pc' := 2) (st' := [.int 0, .int x1]) dX12_isCorner_1 rfl ?_
  refine ex_step (pc' := 3) dX12_isCorner_2 rfl ?_
  refine ex_getr dX12_isCorner_3 wf_RX12_43 (ly_a420 hL) rfl (ly_r420_22 hL) ?_
  refine ex_step (pc' := 7) dX12_isCorner_6 rfl ?_
  refine ex_geti dX12_isCorner_7 wf_RX12_258 (ly_a420 hL) rfl ?_
  obtain ⟨hv, h⟩ := h
  refine ex_iald dX12_isCorner_10 (Or.inl (ly_a429 hL)) hv ?_
  refine ex_step (pc' := 12) (st' := [.int 1, .int (I 429 (I 420 18).toNatClampNeg), .int 0, .int x1]) dX12_isCorner_11 rfl ?_
  refine ex_step (pc' := 13) dX12_isCorner_12 rfl ?_
  refine ex_callS (as := [.int x1, .int 0, .int ((I 429 (I 420 18).toNatClampNeg) - 1)]) (st := []) dX12_isCorner_13 zmX12_in zl_RX12_345 zsX12_in rfl (Nat.le_of_ble_eq_true rfl) (Nat.le_of_ble_eq_true rfl) M_in ?_
  refine ex_if (pc' := 42) dX12_isCorner_16 (by decide) (fun c => ?_) (fun c => ?_)
  · have h := h.1 c
    refine ex_step (pc' := 43) (st' := [.int 0]) dX12_isCorner_42 rfl ?_
    rw [h]; exact ex_ret (v := some (.int 0)) ⟨dX12_isCorner_43, _, rfl, rfl⟩
  · have h := h.2 c
    refine ex_step (pc' := 20) dX12_isCorner_19 rfl ?_
    refine ex_step (pc' := 21) (st' := [.int 0, .int x2]) dX12_isCorner_20 rfl ?_
    refine ex_step (pc' := 22) dX12_isCorner_21 rfl ?_
    refine ex_getr dX12_isCorner_22 wf_RX12_46 (ly_a420 hL) rfl (ly_r420_23 hL) ?_
    refine ex_step (pc' := 26) dX12_isCorner_25 rfl ?_
    refine ex_geti dX12_isCorner_26 wf_RX12_258 (ly_a420 hL) rfl ?_
    obtain ⟨hv, h⟩ := h
    refine ex_iald dX12_isCorner_29 (Or.inl (ly_a430 hL)) hv ?_
    refine ex_step (pc' := 31) (st' := [.int 1, .int (I 430 (I 420 18).toNatClampNeg), .int 0, .int x2]) dX12_isCorner_30 rfl ?_
    refine ex_step (pc' := 32) dX12_isCorner_31 rfl ?_
    refine ex_callS (as := [.int x2, .int 0, .int ((I 430 (I 420 18).toNatClampNeg) - 1)]) (st := []) dX12_isCorner_32 zmX12_in zl_RX12_345 zsX12_in rfl (Nat.le_of_ble_eq_true rfl) (Nat.le_of_ble_eq_true rfl) M_in ?_
    refine ex_if (pc' := 42) dX12_isCorner_35 (by decide) (fun c => ?_) (fun c => ?_)
    · have h := h.1 c
      refine ex_step (pc' := 43) (st' := [.int 0]) dX12_isCorner_42 rfl ?_
      rw [h]; exact ex_ret (v := some (.int 0)) ⟨dX12_isCorner_43, _, rfl, rfl⟩
    · have h := h.2 c
      refine ex_step (pc' := 39) (st' := [.int 1]) dX12_isCorner_38 rfl ?_
      refine ex_step (pc' := 43) dX12_isCorner_39 rfl ?_
      rw [h]; exact ex_ret (v := some (.int 1)) ⟨dX12_isCorner_43, _, rfl, rfl⟩
set_option maxHeartbeats 4000000 in
theorem BX12_steps_0 {d : Nat} {Z : zZ} {I : zI} {J : zJ} {o : zO} {t u : Nat} (x1 : Int32) (x2 : Int32) (hL : zLY Z t u)  (h : (vp_in x1 1290 ∧ (∀ y1 : Int32, y1 = ((I 458 x1.toNatClampNeg) + (zdx x2)) → (vp_in ((7 : Int32) + x1) 1290 ∧ (∀ y2 : Int32, y2 = ((I 458 ((7 : Int32) + x1).toNatClampNeg) + (zdy x2)) → (vp_in ((21 : Int32) + x1) 1290 ∧ (((I 458 ((21 : Int32) + x1).toNatClampNeg) = 1 → o = (some (.int 0), Z, I, J)) ∧ (¬ (I 458 ((21 : Int32) + x1).toNatClampNeg) = 1 → (∃ (v3 : Int32), zE (d + 3) kX12_isCorner 0 [some (.ref 420), some (.int y1), some (.int y2)] [] Z I J (some (.int v3), Z, I, J) ∧ ((v3 = 0 → o = (some (.int 0), Z, I, J)) ∧ (¬ v3 = 0 → (∃ (v4 : Int32) (I5 : zI), zE (d + 3) kX12_leftOf 0 [some (.ref 420), some (.int x1)] [] Z I J (some (.int v4), Z, I5, J) ∧ ((1 ≤ v4 → (vp_in ((14 : Int32) + x1) 1290 ∧ (∀ y6 : Int32, y6 = (((60 : Int32) * x1) + (I5 458 ((14 : Int32) + x1).toNatClampNeg)) → (vp_in ((30 : Int32) + y6) 1290 ∧ (∀ I7 : zI, I7 = zu I5 458 ((30 : Int32) + y6).toNatClampNeg x2 → (vp_in ((450 : Int32) + y6) 1290 ∧ (∀ I8 : zI, I8 = zu I7 458 ((450 : Int32) + y6).toNatClampNeg (I7 458 29) → (vp_in x1 1290 ∧ (vp_in ((7 : Int32) + x1) 1290 ∧ (vp_in ((870 : Int32) + y6) 1290 ∧ (∀ I9 : zI, I9 = zu I8 458 ((870 : Int32) + y6).toNatClampNeg (zsm (I8 458 x1.toNatClampNeg) (I8 458 ((7 : Int32) + x1).toNatClampNeg) x2) → (∀ I10 : zI, I10 = zu I9 458 29 ((I9 458 29) + 1) → (vp_in ((14 : Int32) + x1) 1290 ∧ (vp_in ((14 : Int32) + x1) 1290 ∧ (∀ I11 : zI, I11 = zu I10 458 ((14 : Int32) + x1).toNatClampNeg ((I10 458 ((14 : Int32) + x1).toNatClampNeg) + 1) → (vp_in x1 1290 ∧ (∀ I12 : zI, I12 = zu I11 458 x1.toNatClampNeg y1 → (vp_in ((7 : Int32) + x1) 1290 ∧ (∀ I13 : zI, I13 = zu I12 458 ((7 : Int32) + x1).toNatClampNeg y2 → o = (some (.int 1), Z, I13, J)))))))))))))))))))) ∧ (¬ 1 ≤ v4 → o = (some (.int 0), Z, I5, J))))))))))))))) : zE (d + 4) kX12_steps 0 [some (.ref 420), some (.int x1), some (.int x2), none, none, none] [] Z I J o := by
  refine ex_step (pc' := 1) dX12_steps_0 rfl ?_
  refine ex_getr dX12_steps_1 wf_RX12_131 (ly_a420 hL) rfl (ly_r420_56 hL) ?_
  refine ex_step (pc' := 5) dX12_steps_4 rfl ?_
  obtain ⟨hv, h⟩ := h
  refine ex_iald dX12_steps_5 (Or.inl (ly_a458 hL)) hv ?_
  refine ex_step (pc' := 7) dX12_steps_6 rfl ?_
  refine ex_callS (as := [.int x2]) (st := [.int (I 458 x1.toNatClampNeg)]) dX12_steps_7 zmX12_dx zl_RX12_368 zsX12_dx rfl (Nat.le_of_ble_eq_true rfl) (Nat.le_of_ble_eq_true rfl) M_dx ?_
  refine ex_step (pc' := 11) dX12_steps_10 rfl ?_
  refine ex_topi (fun y1 ey1 => ?_)
  have h := h y1 ey1
  refine ex_step (pc' := 12) (ls' := [some (.ref 420), some (.int x1), some (.int x2), some (.int y1), none, none]) dX12_steps_11 rfl ?_
  refine ex_step (pc' := 13) dX12_steps_12 rfl ?_
  refine ex_getr dX12_steps_13 wf_RX12_131 (ly_a420 hL) rfl (ly_r420_56 hL) ?_
  refine ex_step (pc' := 18) (st' := [.int 7, .ref 458]) dX12_steps_16 rfl ?_
  refine ex_step (pc' := 19) dX12_steps_18 rfl ?_
  refine ex_step (pc' := 20) dX12_steps_19 rfl ?_
  obtain ⟨hv, h⟩ := h
  refine ex_iald dX12_steps_20 (Or.inl (ly_a458 hL)) hv ?_
  refine ex_step (pc' := 22) dX12_steps_21 rfl ?_
  refine ex_callS (as := [.int x2]) (st := [.int (I 458 ((7 : Int32) + x1).toNatClampNeg)]) dX12_steps_22 zmX12_dy zl_RX12_371 zsX12_dy rfl (Nat.le_of_ble_eq_true rfl) (Nat.le_of_ble_eq_true rfl) M_dy ?_
  refine ex_step (pc' := 26) dX12_steps_25 rfl ?_
  refine ex_topi (fun y2 ey2 => ?_)
  have h := h y2 ey2
  refine ex_step (pc' := 28) (ls' := [some (.ref 420), some (.int x1), some (.int x2), some (.int y1), some (.int y2), none]) dX12_steps_26 rfl ?_
  refine ex_step (pc' := 29) dX12_steps_28 rfl ?_
  refine ex_getr dX12_steps_29 wf_RX12_131 (ly_a420 hL) rfl (ly_r420_56 hL) ?_
  refine ex_step (pc' := 34) (st' := [.int 21, .ref 458]) dX12_steps_32 rfl ?_
  refine ex_step (pc' := 35) dX12_steps_34 rfl ?_
  refine ex_step (pc' := 36) dX12_steps_35 rfl ?_
  obtain ⟨hv, h⟩ := h
  refine ex_iald dX12_steps_36 (Or.inl (ly_a458 hL)) hv ?_
  refine ex_step (pc' := 38) (st' := [.int 1, .int (I 458 ((21 : Int32) + x1).toNatClampNeg)]) dX12_steps_37 rfl ?_
  refine ex_icmp (pc' := 60) dX12_steps_38 (by decide) (fun c => ?_) (fun c => ?_)
  · have h := h.1 c
    refine ex_step (pc' := 61) (st' := [.int 0]) dX12_steps_60 rfl ?_
    rw [h]; exact ex_ret (v := some (.int 0)) ⟨dX12_steps_61, _, rfl, rfl⟩
  · have h := h.2 c
    refine ex_step (pc' := 42) dX12_steps_41 rfl ?_
    refine ex_step (pc' := 43) dX12_steps_42 rfl ?_
    refine ex_step (pc' := 45) dX12_steps_43 rfl ?_
    obtain ⟨v3, hc, h⟩ := h
    refine ex_callV (as := [.int y1, .int y2]) (st := []) (ci := 12) dX12_steps_45 zmX12_isCorner zl_RX12_374 ziX12_isCorner zvX12_isCorner (by decide) (ly_a420 hL) rfl (Nat.le_of_ble_eq_true rfl) (Nat.le_of_ble_eq_true rfl) hc ?_
    refine ex_if (pc' := 60) dX12_steps_48 (by decide) (fun c => ?_) (fun c => ?_)
    · have h := h.1 c
      refine ex_step (pc' := 61) (st' := [.int 0]) dX12_steps_60 rfl ?_
      rw [h]; exact ex_ret (v := some (.int 0)) ⟨dX12_steps_61, _, rfl, rfl⟩
    · have h := h.2 c
      refine ex_step (pc' := 52) dX12_steps_51 rfl ?_
      refine ex_step (pc' := 53) dX12_steps_52 rfl ?_
      obtain ⟨v4, I5, hc, h⟩ := h
      refine ex_callV (as := [.int x1]) (st := []) (ci := 12) dX12_steps_53 zmX12_leftOf zl_RX12_362 ziX12_leftOf zvX12_leftOf (by decide) (ly_a420 hL) rfl (Nat.le_of_ble_eq_true rfl) (Nat.le_of_ble_eq_true rfl) hc ?_
      refine ex_step (pc' := 57) (st' := [.int 1, .int v4]) dX12_steps_56 rfl ?_
      refine ex_icmp (pc' := 62) dX12_steps_57 (by decide) (fun c => ?_) (fun c => ?_)
      · have h := h.1 c
        refine ex_step (pc' := 64) (st' := [.int 60]) dX12_steps_62 rfl ?_
        refine ex_step (pc' := 65) dX12_steps_64 rfl ?_
        refine ex_step (pc' := 66) dX12_steps_65 rfl ?_
        refine ex_step (pc' := 67) dX12_steps_66 rfl ?_
        refine ex_getr dX12_steps_67 wf_RX12_131 (ly_a420 hL) rfl (ly_r420_56 hL) ?_
        refine ex_step (pc' := 72) (st' := [.int 14, .ref 458, .int ((60 : Int32) * x1)]) dX12_steps_70 rfl ?_
        refine ex_step (pc' := 73) dX12_steps_72 rfl ?_
        refine ex_step (pc' := 74) dX12_steps_73 rfl ?_
        obtain ⟨hv, h⟩ := h
        refine ex_iald dX12_steps_74 (Or.inl (ly_a458 hL)) hv ?_
        refine ex_step (pc' := 76) dX12_steps_75 rfl ?_
        refine ex_topi (fun y6 ey6 => ?_)
        have h := h y6 ey6
        refine ex_step (pc' := 78) (ls' := [some (.ref 420), some (.int x1), some (.int x2), some (.int y1), some (.int y2), some (.int y6)]) dX12_steps_76 rfl ?_
        refine ex_step (pc' := 79) dX12_steps_78 rfl ?_
        refine ex_getr dX12_steps_79 wf_RX12_131 (ly_a420 hL) rfl (ly_r420_56 hL) ?_
        refine ex_step (pc' := 84) (st' := [.int 30, .ref 458]) dX12_steps_82 rfl ?_
        refine ex_step (pc' := 86) dX12_steps_84 rfl ?_
        refine ex_step (pc' := 87) dX12_steps_86 rfl ?_
        refine ex_step (pc' := 88) dX12_steps_87 rfl ?_
        obtain ⟨hv, h⟩ := h
        refine ex_iastN dX12_steps_88 (ly_a458 hL) hv (fun I7 eI7 => ?_)
        have h := h I7 eI7
        refine ex_step (pc' := 90) dX12_steps_89 rfl ?_
        refine ex_getr dX12_steps_90 wf_RX12_131 (ly_a420 hL) rfl (ly_r420_56 hL) ?_
        refine ex_step (pc' := 96) (st' := [.int 450, .ref 458]) dX12_steps_93 rfl ?_
        refine ex_step (pc' := 98) dX12_steps_96 rfl ?_
        refine ex_step (pc' := 99) dX12_steps_98 rfl ?_
        refine ex_step (pc' := 100) dX12_steps_99 rfl ?_
        refine ex_getr dX12_steps_100 wf_RX12_131 (ly_a420 hL) rfl (ly_r420_56 hL) ?_
        refine ex_step (pc' := 105) (st' := [.int 29, .ref 458, .int ((450 : Int32) + y6), .ref 458]) dX12_steps_103 rfl ?_
        have hv : vp_in 29 1290 := by unfold vp_in; decide
        refine ex_iald dX12_steps_105 (Or.inl (ly_a458 hL)) hv ?_
        obtain ⟨hv, h⟩ := h
        refine ex_iastN dX12_steps_106 (ly_a458 hL) hv (fun I8 eI8 => ?_)
        have h := h I8 eI8
        refine ex_step (pc' := 108) dX12_steps_107 rfl ?_
        refine ex_getr dX12_steps_108 wf_RX12_131 (ly_a420 hL) rfl (ly_r420_56 hL) ?_
        refine ex_step (pc' := 114) (st' := [.int 870, .ref 458]) dX12_steps_111 rfl ?_
        refine ex_step (pc' := 116) dX12_steps_114 rfl ?_
        refine ex_step (pc' := 117) dX12_steps_116 rfl ?_
        refine ex_step (pc' := 118) dX12_steps_117 rfl ?_
        refine ex_getr dX12_steps_118 wf_RX12_131 (ly_a420 hL) rfl (ly_r420_56 hL) ?_
        refine ex_step (pc' := 122) dX12_steps_121 rfl ?_
        obtain ⟨hv, h⟩ := h
        refine ex_iald dX12_steps_122 (Or.inl (ly_a458 hL)) hv ?_
        refine ex_step (pc' := 124) dX12_steps_123 rfl ?_
        refine ex_getr dX12_steps_124 wf_RX12_131 (ly_a420 hL) rfl (ly_r420_56 hL) ?_
        refine ex_step (pc' := 129) (st' := [.int 7, .ref 458, .int (I8 458 x1.toNatClampNeg), .int ((870 : Int32) + y6), .ref 458]) dX12_steps_127 rfl ?_
        refine ex_step (pc' := 130) dX12_steps_129 rfl ?_
        refine ex_step (pc' := 131) dX12_steps_130 rfl ?_
        obtain ⟨hv, h⟩ := h
        refine ex_iald dX12_steps_131 (Or.inl (ly_a458 hL)) hv ?_
        refine ex_step (pc' := 133) dX12_steps_132 rfl ?_
        refine ex_callS (as := [.int (I8 458 x1.toNatClampNeg), .int (I8 458 ((7 : Int32) + x1).toNatClampNeg), .int x2]) (st := [.int ((870 : Int32) + y6), .ref 458]) dX12_steps_133 zmX12_streetOf zl_RX12_378 zsX12_streetOf rfl (Nat.le_of_ble_eq_true rfl) (Nat.le_of_ble_eq_true rfl) M_streetOf ?_
        obtain ⟨hv, h⟩ := h
        refine ex_iastN dX12_steps_136 (ly_a458 hL) hv (fun I9 eI9 => ?_)
        have h := h I9 eI9
        refine ex_step (pc' := 138) dX12_steps_137 rfl ?_
        refine ex_getr dX12_steps_138 wf_RX12_131 (ly_a420 hL) rfl (ly_r420_56 hL) ?_
        refine ex_step (pc' := 143) (st' := [.int 29, .ref 458]) dX12_steps_141 rfl ?_
        refine ex_step (pc' := 144) dX12_steps_143 rfl ?_
        have hv : vp_in 29 1290 := by unfold vp_in; decide
        refine ex_iald dX12_steps_144 (Or.inl (ly_a458 hL)) hv ?_
        refine ex_step (pc' := 146) (st' := [.int 1, .int (I9 458 29), .int 29, .ref 458]) dX12_steps_145 rfl ?_
        refine ex_step (pc' := 147) dX12_steps_146 rfl ?_
        have hv : vp_in 29 1290 := by unfold vp_in; decide
        refine ex_iastN dX12_steps_147 (ly_a458 hL) hv (fun I10 eI10 => ?_)
        have h := h I10 eI10
        refine ex_step (pc' := 149) dX12_steps_148 rfl ?_
        refine ex_getr dX12_steps_149 wf_RX12_131 (ly_a420 hL) rfl (ly_r420_56 hL) ?_
        refine ex_step (pc' := 154) (st' := [.int 14, .ref 458]) dX12_steps_152 rfl ?_
        refine ex_step (pc' := 155) dX12_steps_154 rfl ?_
        refine ex_step (pc' := 156) dX12_steps_155 rfl ?_
        refine ex_step (pc' := 157) dX12_steps_156 rfl ?_
        obtain ⟨hv, h⟩ := h
        refine ex_iald dX12_steps_157 (Or.inl (ly_a458 hL)) hv ?_
        refine ex_step (pc' := 159) (st' := [.int 1, .int (I10 458 ((14 : Int32) + x1).toNatClampNeg), .int ((14 : Int32) + x1), .ref 458]) dX12_steps_158 rfl ?_
        refine ex_step (pc' := 160) dX12_steps_159 rfl ?_
        obtain ⟨hv, h⟩ := h
        refine ex_iastN dX12_steps_160 (ly_a458 hL) hv (fun I11 eI11 => ?_)
        have h := h I11 eI11
        refine ex_step (pc' := 162) dX12_steps_161 rfl ?_
        refine ex_getr dX12_steps_162 wf_RX12_131 (ly_a420 hL) rfl (ly_r420_56 hL) ?_
        refine ex_step (pc' := 166) dX12_steps_165 rfl ?_
        refine ex_step (pc' := 167) dX12_steps_166 rfl ?_
        obtain ⟨hv, h⟩ := h
        refine ex_iastN dX12_steps_167 (ly_a458 hL) hv (fun I12 eI12 => ?_)
        have h := h I12 eI12
        refine ex_step (pc' := 169) dX12_steps_168 rfl ?_
        refine ex_getr dX12_steps_169 wf_RX12_131 (ly_a420 hL) rfl (ly_r420_56 hL) ?_
        refine ex_step (pc' := 174) (st' := [.int 7, .ref 458]) dX12_steps_172 rfl ?_
        refine ex_step (pc' := 175) dX12_steps_174 rfl ?_
        refine ex_step (pc' := 176) dX12_steps_175 rfl ?_
        refine ex_step (pc' := 178) dX12_steps_176 rfl ?_
        obtain ⟨hv, h⟩ := h
        refine ex_iastN dX12_steps_178 (ly_a458 hL) hv (fun I13 eI13 => ?_)
        have h := h I13 eI13
        refine ex_step (pc' := 180) (st' := [.int 1]) dX12_steps_179 rfl ?_
        rw [h]; exact ex_ret (v := some (.int 1)) ⟨dX12_steps_180, _, rfl, rfl⟩
      · have h := h.2 c
        refine ex_step (pc' := 61) (st' := [.int 0]) dX12_steps_60 rfl ?_
        rw [h]; exact ex_ret (v := some (.int 0)) ⟨dX12_steps_61, _, rfl, rfl⟩
set_option maxHeartbeats 4000000 in
theorem BX12_others_0 {d : Nat} {Z : zZ} {I : zI} {J : zJ} {o : zO} {t u : Nat} (x1 : Int32) (x2 : Int32) (x3 : Int32) (hL : zLY Z t u)  (h : zE d kX12_others 6 [some (.ref 420), some (.int x1), some (.int x2), some (.int x3), some (.int 0), some (.int 0), none, none] [] Z I J o) : zE d kX12_others 0 [some (.ref 420), some (.int x1), some (.int x2), some (.int x3), none, none, none, none] [] Z I J o := by
  refine ex_step (pc' := 1) (st' := [.int 0]) dX12_others_0 rfl ?_
  refine ex_step (pc' := 3) (ls' := [some (.ref 420), some (.int x1), some (.int x2), some (.int x3), some (.int 0), none, none, none]) dX12_others_1 rfl ?_
  refine ex_step (pc' := 4) (st' := [.int 0]) dX12_others_3 rfl ?_
  refine ex_step (pc' := 6) (ls' := [some (.ref 420), some (.int x1), some (.int x2), some (.int x3), some (.int 0), some (.int 0), none, none]) dX12_others_4 rfl ?_
  exact h
set_option maxHeartbeats 4000000 in
theorem BX12_others_6 {d : Nat} {Z : zZ} {I : zI} {J : zJ} {o : zO} {t u : Nat} (x1 : Int32) (x2 : Int32) (x3 : Int32) (x4 : Int32) (x5 : Int32) (hL : zLY Z t u)  (h : (vp_in (I 420 18) 2 ∧ (((I 431 (I 420 18).toNatClampNeg) ≤ x5 → o = (some (.int x4), Z, I, J)) ∧ (¬ (I 431 (I 420 18).toNatClampNeg) ≤ x5 → zE d kX12_others 23 [some (.ref 420), some (.int x1), some (.int x2), some (.int x3), some (.int x4), some (.int x5), some (.int 0), none] [] Z I J o)))) : zE d kX12_others 6 [some (.ref 420), some (.int x1), some (.int x2), some (.int x3), some (.int x4), some (.int x5), none, none] [] Z I J o := by
  refine ex_step (pc' := 8) dX12_others_6 rfl ?_
  refine ex_step (pc' := 9) dX12_others_8 rfl ?_
  refine ex_getr dX12_others_9 wf_RX12_49 (ly_a420 hL) rfl (ly_r420_24 hL) ?_
  refine ex_step (pc' := 13) dX12_others_12 rfl ?_
  refine ex_geti dX12_others_13 wf_RX12_258 (ly_a420 hL) rfl ?_
  obtain ⟨hv, h⟩ := h
  refine ex_iald dX12_others_16 (Or.inl (ly_a431 hL)) hv ?_
  refine ex_icmp (pc' := 115) dX12_others_17 (by decide) (fun c => ?_) (fun c => ?_)
  · have h := h.1 c
    refine ex_step (pc' := 117) dX12_others_115 rfl ?_
    rw [h]; exact ex_ret (v := some (.int x4)) ⟨dX12_others_117, _, rfl, rfl⟩
  · have h := h.2 c
    refine ex_step (pc' := 21) (st' := [.int 0]) dX12_others_20 rfl ?_
    refine ex_step (pc' := 23) (ls' := [some (.ref 420), some (.int x1), some (.int x2), some (.int x3), some (.int x4), some (.int x5), some (.int 0), none]) dX12_others_21 rfl ?_
    exact h
set_option maxHeartbeats 4000000 in
theorem BX12_others_23 {d : Nat} {Z : zZ} {I : zI} {J : zJ} {o : zO} {t u : Nat} (x1 : Int32) (x2 : Int32) (x3 : Int32) (x4 : Int32) (x5 : Int32) (x6 : Int32) (hL : zLY Z t u)  (h : (vp_in ((14 : Int32) + x5) 1290 ∧ (((I 458 ((14 : Int32) + x5).toNatClampNeg) ≤ x6 → zE d kX12_others 6 [some (.ref 420), some (.int x1), some (.int x2), some (.int x3), some (.int x4), some (.int (x5 + 1)), none, none] [] Z I J o) ∧ (¬ (I 458 ((14 : Int32) + x5).toNatClampNeg) ≤ x6 → (∀ y1 : Int32, y1 = (((60 : Int32) * x5) + x6) → (vp_in ((870 : Int32) + y1) 1290 ∧ ((¬ (I 458 ((870 : Int32) + y1).toNatClampNeg) = x1 → zE d kX12_others 23 [some (.ref 420), some (.int x1), some (.int x2), some (.int x3), some (.int x4), some (.int x5), some (.int (x6 + 1)), none] [] Z I J o) ∧ ((I 458 ((870 : Int32) + y1).toNatClampNeg) = x1 → ((x3 = 0 → (vp_in ((450 : Int32) + y1) 1290 ∧ ((x2 ≤ (I 458 ((450 : Int32) + y1).toNatClampNeg) → zE d kX12_others 23 [some (.ref 420), some (.int x1), some (.int x2), some (.int x3), some (.int x4), some (.int x5), some (.int (x6 + 1)), none] [] Z I J o) ∧ (¬ x2 ≤ (I 458 ((450 : Int32) + y1).toNatClampNeg) → zE d kX12_others 23 [some (.ref 420), some (.int x1), some (.int x2), some (.int x3), some (.int (x4 + 1)), some (.int x5), some (.int (x6 + 1)), none] [] Z I J o)))) ∧ (¬ x3 = 0 → (vp_in ((450 : Int32) + y1) 1290 ∧ (((I 458 ((450 : Int32) + y1).toNatClampNeg) ≤ x2 → zE d kX12_others 23 [some (.ref 420), some (.int x1), some (.int x2), some (.int x3), some (.int x4), some (.int x5), some (.int (x6 + 1)), none] [] Z I J o) ∧ (¬ (I 458 ((450 : Int32) + y1).toNatClampNeg) ≤ x2 → zE d kX12_others 23 [some (.ref 420), some (.int x1), some (.int x2), some (.int x3), some (.int (x4 + 1)), some (.int x5), some (.int (x6 + 1)), none] [] Z I J o))))))))))))) : zE d kX12_others 23 [some (.ref 420), some (.int x1), some (.int x2), some (.int x3), some (.int x4), some (.int x5), some (.int x6), none] [] Z I J o := by
  refine ex_step (pc' := 25) dX12_others_23 rfl ?_
  refine ex_step (pc' := 26) dX12_others_25 rfl ?_
  refine ex_getr dX12_others_26 wf_RX12_131 (ly_a420 hL) rfl (ly_r420_56 hL) ?_
  refine ex_step (pc' := 31) (st' := [.int 14, .ref 458, .int x6]) dX12_others_29 rfl ?_
  refine ex_step (pc' := 33) dX12_others_31 rfl ?_
  refine ex_step (pc' := 34) dX12_others_33 rfl ?_
  obtain ⟨hv, h⟩ := h
  refine ex_iald dX12_others_34 (Or.inl (ly_a458 hL)) hv ?_
  refine ex_icmp (pc' := 109) dX12_others_35 (by decide) (fun c => ?_) (fun c => ?_)
  · have h := h.1 c
    refine ex_step (pc' := 112) (ls' := [some (.ref 420), some (.int x1), some (.int x2), some (.int x3), some (.int x4), some (.int (x5 + 1)), some (.int x6), none]) dX12_others_109 rfl ?_
    refine ex_step (pc' := 6) dX12_others_112 rfl ?_
    exact ex_less (ls' := [some (.ref 420), some (.int x1), some (.int x2), some (.int x3), some (.int x4), some (.int (x5 + 1)), none, none]) ⟨rfl, ⟨rfl, ⟨rfl, ⟨rfl, ⟨rfl, ⟨rfl, trivial⟩⟩⟩⟩⟩⟩ h
  · have h := h.2 c
    refine ex_step (pc' := 40) (st' := [.int 60]) dX12_others_38 rfl ?_
    refine ex_step (pc' := 42) dX12_others_40 rfl ?_
    refine ex_step (pc' := 43) dX12_others_42 rfl ?_
    refine ex_step (pc' := 45) dX12_others_43 rfl ?_
    refine ex_step (pc' := 46) dX12_others_45 rfl ?_
    refine ex_topi (fun y1 ey1 => ?_)
    have h := h y1 ey1
    refine ex_step (pc' := 48) (ls' := [some (.ref 420), some (.int x1), some (.int x2), some (.int x3), some (.int x4), some (.int x5), some (.int x6), some (.int y1)]) dX12_others_46 rfl ?_
    refine ex_step (pc' := 49) dX12_others_48 rfl ?_
    refine ex_getr dX12_others_49 wf_RX12_131 (ly_a420 hL) rfl (ly_r420_56 hL) ?_
    refine ex_step (pc' := 55) (st' := [.int 870, .ref 458]) dX12_others_52 rfl ?_
    refine ex_step (pc' := 57) dX12_others_55 rfl ?_
    refine ex_step (pc' := 58) dX12_others_57 rfl ?_
    obtain ⟨hv, h⟩ := h
    refine ex_iald dX12_others_58 (Or.inl (ly_a458 hL)) hv ?_
    refine ex_step (pc' := 60) dX12_others_59 rfl ?_
    refine ex_icmp (pc' := 103) dX12_others_60 (by decide) (fun c => ?_) (fun c => ?_)
    · have h := h.1 c
      refine ex_step (pc' := 106) (ls' := [some (.ref 420), some (.int x1), some (.int x2), some (.int x3), some (.int x4), some (.int x5), some (.int (x6 + 1)), some (.int y1)]) dX12_others_103 rfl ?_
      refine ex_step (pc' := 23) dX12_others_106 rfl ?_
      exact ex_less (ls' := [some (.ref 420), some (.int x1), some (.int x2), some (.int x3), some (.int x4), some (.int x5), some (.int (x6 + 1)), none]) ⟨rfl, ⟨rfl, ⟨rfl, ⟨rfl, ⟨rfl, ⟨rfl, ⟨rfl, trivial⟩⟩⟩⟩⟩⟩⟩ h
    · have h := h.2 (Classical.not_not.mp c)
      refine ex_step (pc' := 64) dX12_others_63 rfl ?_
      refine ex_if (pc' := 85) dX12_others_64 (by decide) (fun c => ?_) (fun c => ?_)
      · have h := h.1 c
        refine ex_step (pc' := 86) dX12_others_85 rfl ?_
        refine ex_getr dX12_others_86 wf_RX12_131 (ly_a420 hL) rfl (ly_r420_56 hL) ?_
        refine ex_step (pc' := 92) (st' := [.int 450, .ref 458]) dX12_others_89 rfl ?_
        refine ex_step (pc' := 94) dX12_others_92 rfl ?_
        refine ex_step (pc' := 95) dX12_others_94 rfl ?_
        obtain ⟨hv, h⟩ := h
        refine ex_iald dX12_others_95 (Or.inl (ly_a458 hL)) hv ?_
        refine ex_step (pc' := 97) dX12_others_96 rfl ?_
        refine ex_icmp (pc' := 103) dX12_others_97 (by decide) (fun c => ?_) (fun c => ?_)
        · have h := h.1 c
          refine ex_step (pc' := 106) (ls' := [some (.ref 420), some (.int x1), some (.int x2), some (.int x3), some (.int x4), some (.int x5), some (.int (x6 + 1)), some (.int y1)]) dX12_others_103 rfl ?_
          refine ex_step (pc' := 23) dX12_others_106 rfl ?_
          exact ex_less (ls' := [some (.ref 420), some (.int x1), some (.int x2), some (.int x3), some (.int x4), some (.int x5), some (.int (x6 + 1)), none]) ⟨rfl, ⟨rfl, ⟨rfl, ⟨rfl, ⟨rfl, ⟨rfl, ⟨rfl, trivial⟩⟩⟩⟩⟩⟩⟩ h
        · have h := h.2 c
          refine ex_step (pc' := 103) (ls' := [some (.ref 420), some (.int x1), some (.int x2), some (.int x3), some (.int (x4 + 1)), some (.int x5), some (.int x6), some (.int y1)]) dX12_others_100 rfl ?_
          refine ex_step (pc' := 106) (ls' := [some (.ref 420), some (.int x1), some (.int x2), some (.int x3), some (.int (x4 + 1)), some (.int x5), some (.int (x6 + 1)), some (.int y1)]) dX12_others_103 rfl ?_
          refine ex_step (pc' := 23) dX12_others_106 rfl ?_
          exact ex_less (ls' := [some (.ref 420), some (.int x1), some (.int x2), some (.int x3), some (.int (x4 + 1)), some (.int x5), some (.int (x6 + 1)), none]) ⟨rfl, ⟨rfl, ⟨rfl, ⟨rfl, ⟨rfl, ⟨rfl, ⟨rfl, trivial⟩⟩⟩⟩⟩⟩⟩ h
      · have h := h.2 c
        refine ex_step (pc' := 68) dX12_others_67 rfl ?_
        refine ex_getr dX12_others_68 wf_RX12_131 (ly_a420 hL) rfl (ly_r420_56 hL) ?_
        refine ex_step (pc' := 74) (st' := [.int 450, .ref 458]) dX12_others_71 rfl ?_
        refine ex_step (pc' := 76) dX12_others_74 rfl ?_
        refine ex_step (pc' := 77) dX12_others_76 rfl ?_
        obtain ⟨hv, h⟩ := h
        refine ex_iald dX12_others_77 (Or.inl (ly_a458 hL)) hv ?_
        refine ex_step (pc' := 79) dX12_others_78 rfl ?_
        refine ex_icmp (pc' := 103) dX12_others_79 (by decide) (fun c => ?_) (fun c => ?_)
        · have h := h.1 c
          refine ex_step (pc' := 106) (ls' := [some (.ref 420), some (.int x1), some (.int x2), some (.int x3), some (.int x4), some (.int x5), some (.int (x6 + 1)), some (.int y1)]) dX12_others_103 rfl ?_
          refine ex_step (pc' := 23) dX12_others_106 rfl ?_
          exact ex_less (ls' := [some (.ref 420), some (.int x1), some (.int x2), some (.int x3), some (.int x4), some (.int x5), some (.int (x6 + 1)), none]) ⟨rfl, ⟨rfl, ⟨rfl, ⟨rfl, ⟨rfl, ⟨rfl, ⟨rfl, trivial⟩⟩⟩⟩⟩⟩⟩ h
        · have h := h.2 c
          refine ex_step (pc' := 100) dX12_others_82 rfl ?_
          refine ex_step (pc' := 103) (ls' := [some (.ref 420), some (.int x1), some (.int x2), some (.int x3), some (.int (x4 + 1)), some (.int x5), some (.int x6), some (.int y1)]) dX12_others_100 rfl ?_
          refine ex_step (pc' := 106) (ls' := [some (.ref 420), some (.int x1), some (.int x2), some (.int x3), some (.int (x4 + 1)), some (.int x5), some (.int (x6 + 1)), some (.int y1)]) dX12_others_103 rfl ?_
          refine ex_step (pc' := 23) dX12_others_106 rfl ?_
          exact ex_less (ls' := [some (.ref 420), some (.int x1), some (.int x2), some (.int x3), some (.int (x4 + 1)), some (.int x5), some (.int (x6 + 1)), none]) ⟨rfl, ⟨rfl, ⟨rfl, ⟨rfl, ⟨rfl, ⟨rfl, ⟨rfl, trivial⟩⟩⟩⟩⟩⟩⟩ h
set_option maxHeartbeats 4000000 in
theorem BX12_winds_0 {d : Nat} {Z : zZ} {I : zI} {J : zJ} {o : zO} {t u : Nat} (x1 : Int32) (hL : zLY Z t u)  (h : (vp_in ((21 : Int32) + x1) 1290 ∧ (((I 458 ((21 : Int32) + x1).toNatClampNeg) = 1 → o = (some (.int 0), Z, I, J)) ∧ (¬ (I 458 ((21 : Int32) + x1).toNatClampNeg) = 1 → (vp_in ((14 : Int32) + x1) 1290 ∧ ((¬ (I 458 ((14 : Int32) + x1).toNatClampNeg) = 0 → (vp_in ((14 : Int32) + x1) 1290 ∧ (∀ y1 : Int32, y1 = ((((60 : Int32) * x1) + (I 458 ((14 : Int32) + x1).toNatClampNeg)) - 1) → (vp_in ((870 : Int32) + y1) 1290 ∧ (vp_in ((450 : Int32) + y1) 1290 ∧ (∃ (v2 : Int32), zE d kX12_others 0 [some (.ref 420), some (.int (I 458 ((870 : Int32) + y1).toNatClampNeg)), some (.int (I 458 ((450 : Int32) + y1).toNatClampNeg)), some (.int 1), none, none, none, none] [] Z I J (some (.int v2), Z, I, J) ∧ ((v2 ≤ 0 → (vp_in ((14 : Int32) + x1) 1290 ∧ (vp_in ((14 : Int32) + x1) 1290 ∧ (∀ I3 : zI, I3 = zu I 458 ((14 : Int32) + x1).toNatClampNeg ((I 458 ((14 : Int32) + x1).toNatClampNeg) - 1) → (vp_in x1 1290 ∧ (vp_in ((30 : Int32) + y1) 1290 ∧ (vp_in x1 1290 ∧ (∀ I4 : zI, I4 = zu I3 458 x1.toNatClampNeg ((I3 458 x1.toNatClampNeg) - (zdx (I3 458 ((30 : Int32) + y1).toNatClampNeg))) → (vp_in ((7 : Int32) + x1) 1290 ∧ (vp_in ((30 : Int32) + y1) 1290 ∧ (vp_in ((7 : Int32) + x1) 1290 ∧ (∀ I5 : zI, I5 = zu I4 458 ((7 : Int32) + x1).toNatClampNeg ((I4 458 ((7 : Int32) + x1).toNatClampNeg) - (zdy (I4 458 ((30 : Int32) + y1).toNatClampNeg))) → o = (some (.int 1), Z, I5, J))))))))))))) ∧ (¬ v2 ≤ 0 → o = (some (.int 0), Z, I, J))))))))) ∧ ((I 458 ((14 : Int32) + x1).toNatClampNeg) = 0 → o = (some (.int 0), Z, I, J)))))))) : zE (d + 1) kX12_winds 0 [some (.ref 420), some (.int x1), none] [] Z I J o := by
  refine ex_step (pc' := 1) dX12_winds_0 rfl ?_
  refine ex_getr dX12_winds_1 wf_RX12_131 (ly_a420 hL) rfl (ly_r420_56 hL) ?_
  refine ex_step (pc' := 6) (st' := [.int 21, .ref 458]) dX12_winds_4 rfl ?_
  refine ex_step (pc' := 7) dX12_winds_6 rfl ?_
  refine ex_step (pc' := 8) dX12_winds_7 rfl ?_
  obtain ⟨hv, h⟩ := h
  refine ex_iald dX12_winds_8 (Or.inl (ly_a458 hL)) hv ?_
  refine ex_step (pc' := 10) (st' := [.int 1, .int (I 458 ((21 : Int32) + x1).toNatClampNeg)]) dX12_winds_9 rfl ?_
  refine ex_icmp (pc' := 25) dX12_winds_10 (by decide) (fun c => ?_) (fun c => ?_)
  · have h := h.1 c
    refine ex_step (pc' := 26) (st' := [.int 0]) dX12_winds_25 rfl ?_
    rw [h]; exact ex_ret (v := some (.int 0)) ⟨dX12_winds_26, _, rfl, rfl⟩
  · have h := h.2 c
    refine ex_step (pc' := 14) dX12_winds_13 rfl ?_
    refine ex_getr dX12_winds_14 wf_RX12_131 (ly_a420 hL) rfl (ly_r420_56 hL) ?_
    refine ex_step (pc' := 19) (st' := [.int 14, .ref 458]) dX12_winds_17 rfl ?_
    refine ex_step (pc' := 20) dX12_winds_19 rfl ?_
    refine ex_step (pc' := 21) dX12_winds_20 rfl ?_
    obtain ⟨hv, h⟩ := h
    refine ex_iald dX12_winds_21 (Or.inl (ly_a458 hL)) hv ?_
    refine ex_if (pc' := 27) dX12_winds_22 (by decide) (fun c => ?_) (fun c => ?_)
    · have h := h.1 c
      refine ex_step (pc' := 29) (st' := [.int 60]) dX12_winds_27 rfl ?_
      refine ex_step (pc' := 30) dX12_winds_29 rfl ?_
      refine ex_step (pc' := 31) dX12_winds_30 rfl ?_
      refine ex_step (pc' := 32) dX12_winds_31 rfl ?_
      refine ex_getr dX12_winds_32 wf_RX12_131 (ly_a420 hL) rfl (ly_r420_56 hL) ?_
      refine ex_step (pc' := 37) (st' := [.int 14, .ref 458, .int ((60 : Int32) * x1)]) dX12_winds_35 rfl ?_
      refine ex_step (pc' := 38) dX12_winds_37 rfl ?_
      refine ex_step (pc' := 39) dX12_winds_38 rfl ?_
      obtain ⟨hv, h⟩ := h
      refine ex_iald dX12_winds_39 (Or.inl (ly_a458 hL)) hv ?_
      refine ex_step (pc' := 41) dX12_winds_40 rfl ?_
      refine ex_step (pc' := 42) (st' := [.int 1, .int (((60 : Int32) * x1) + (I 458 ((14 : Int32) + x1).toNatClampNeg))]) dX12_winds_41 rfl ?_
      refine ex_step (pc' := 43) dX12_winds_42 rfl ?_
      refine ex_topi (fun y1 ey1 => ?_)
      have h := h y1 ey1
      refine ex_step (pc' := 44) (ls' := [some (.ref 420), some (.int x1), some (.int y1)]) dX12_winds_43 rfl ?_
      refine ex_step (pc' := 45) dX12_winds_44 rfl ?_
      refine ex_step (pc' := 46) dX12_winds_45 rfl ?_
      refine ex_getr dX12_winds_46 wf_RX12_131 (ly_a420 hL) rfl (ly_r420_56 hL) ?_
      refine ex_step (pc' := 52) (st' := [.int 870, .ref 458, .ref 420]) dX12_winds_49 rfl ?_
      refine ex_step (pc' := 53) dX12_winds_52 rfl ?_
      refine ex_step (pc' := 54) dX12_winds_53 rfl ?_
      obtain ⟨hv, h⟩ := h
      refine ex_iald dX12_winds_54 (Or.inl (ly_a458 hL)) hv ?_
      refine ex_step (pc' := 56) dX12_winds_55 rfl ?_
      refine ex_getr dX12_winds_56 wf_RX12_131 (ly_a420 hL) rfl (ly_r420_56 hL) ?_
      refine ex_step (pc' := 62) (st' := [.int 450, .ref 458, .int (I 458 ((870 : Int32) + y1).toNatClampNeg), .ref 420]) dX12_winds_59 rfl ?_
      refine ex_step (pc' := 63) dX12_winds_62 rfl ?_
      refine ex_step (pc' := 64) dX12_winds_63 rfl ?_
      obtain ⟨hv, h⟩ := h
      refine ex_iald dX12_winds_64 (Or.inl (ly_a458 hL)) hv ?_
      refine ex_step (pc' := 66) (st' := [.int 1, .int (I 458 ((450 : Int32) + y1).toNatClampNeg), .int (I 458 ((870 : Int32) + y1).toNatClampNeg), .ref 420]) dX12_winds_65 rfl ?_
      obtain ⟨v2, hc, h⟩ := h
      refine ex_callV (as := [.int (I 458 ((870 : Int32) + y1).toNatClampNeg), .int (I 458 ((450 : Int32) + y1).toNatClampNeg), .int 1]) (st := []) (ci := 12) dX12_winds_66 zmX12_others zl_RX12_381 ziX12_others zvX12_others (by decide) (ly_a420 hL) rfl (Nat.le_of_ble_eq_true rfl) (Nat.le_of_ble_eq_true rfl) hc ?_
      refine ex_if (pc' := 74) dX12_winds_69 (by decide) (fun c => ?_) (fun c => ?_)
      · have h := h.1 c
        refine ex_step (pc' := 75) dX12_winds_74 rfl ?_
        refine ex_getr dX12_winds_75 wf_RX12_131 (ly_a420 hL) rfl (ly_r420_56 hL) ?_
        refine ex_step (pc' := 80) (st' := [.int 14, .ref 458]) dX12_winds_78 rfl ?_
        refine ex_step (pc' := 81) dX12_winds_80 rfl ?_
        refine ex_step (pc' := 82) dX12_winds_81 rfl ?_
        refine ex_step (pc' := 83) dX12_winds_82 rfl ?_
        obtain ⟨hv, h⟩ := h
        refine ex_iald dX12_winds_83 (Or.inl (ly_a458 hL)) hv ?_
        refine ex_step (pc' := 85) (st' := [.int 1, .int (I 458 ((14 : Int32) + x1).toNatClampNeg), .int ((14 : Int32) + x1), .ref 458]) dX12_winds_84 rfl ?_
        refine ex_step (pc' := 86) dX12_winds_85 rfl ?_
        obtain ⟨hv, h⟩ := h
        refine ex_iastN dX12_winds_86 (ly_a458 hL) hv (fun I3 eI3 => ?_)
        have h := h I3 eI3
        refine ex_step (pc' := 88) dX12_winds_87 rfl ?_
        refine ex_getr dX12_winds_88 wf_RX12_131 (ly_a420 hL) rfl (ly_r420_56 hL) ?_
        refine ex_step (pc' := 92) dX12_winds_91 rfl ?_
        refine ex_step (pc' := 93) dX12_winds_92 rfl ?_
        obtain ⟨hv, h⟩ := h
        refine ex_iald dX12_winds_93 (Or.inl (ly_a458 hL)) hv ?_
        refine ex_step (pc' := 95) dX12_winds_94 rfl ?_
        refine ex_getr dX12_winds_95 wf_RX12_131 (ly_a420 hL) rfl (ly_r420_56 hL) ?_
        refine ex_step (pc' := 100) (st' := [.int 30, .ref 458, .int (I3 458 x1.toNatClampNeg), .int x1, .ref 458]) dX12_winds_98 rfl ?_
        refine ex_step (pc' := 101) dX12_winds_100 rfl ?_
        refine ex_step (pc' := 102) dX12_winds_101 rfl ?_
        obtain ⟨hv, h⟩ := h
        refine ex_iald dX12_winds_102 (Or.inl (ly_a458 hL)) hv ?_
        refine ex_callS (as := [.int (I3 458 ((30 : Int32) + y1).toNatClampNeg)]) (st := [.int (I3 458 x1.toNatClampNeg), .int x1, .ref 458]) dX12_winds_103 zmX12_dx zl_RX12_368 zsX12_dx rfl (Nat.le_of_ble_eq_true rfl) (Nat.le_of_ble_eq_true rfl) M_dx ?_
        refine ex_step (pc' := 107) dX12_winds_106 rfl ?_
        obtain ⟨hv, h⟩ := h
        refine ex_iastN dX12_winds_107 (ly_a458 hL) hv (fun I4 eI4 => ?_)
        have h := h I4 eI4
        refine ex_step (pc' := 109) dX12_winds_108 rfl ?_
        refine ex_getr dX12_winds_109 wf_RX12_131 (ly_a420 hL) rfl (ly_r420_56 hL) ?_
        refine ex_step (pc' := 114) (st' := [.int 7, .ref 458]) dX12_winds_112 rfl ?_
        refine ex_step (pc' := 115) dX12_winds_114 rfl ?_
        refine ex_step (pc' := 116) dX12_winds_115 rfl ?_
        refine ex_step (pc' := 117) dX12_winds_116 rfl ?_
        obtain ⟨hv, h⟩ := h
        refine ex_iald dX12_winds_117 (Or.inl (ly_a458 hL)) hv ?_
        refine ex_step (pc' := 119) dX12_winds_118 rfl ?_
        refine ex_getr dX12_winds_119 wf_RX12_131 (ly_a420 hL) rfl (ly_r420_56 hL) ?_
        refine ex_step (pc' := 124) (st' := [.int 30, .ref 458, .int (I4 458 ((7 : Int32) + x1).toNatClampNeg), .int ((7 : Int32) + x1), .ref 458]) dX12_winds_122 rfl ?_
        refine ex_step (pc' := 125) dX12_winds_124 rfl ?_
        refine ex_step (pc' := 126) dX12_winds_125 rfl ?_
        obtain ⟨hv, h⟩ := h
        refine ex_iald dX12_winds_126 (Or.inl (ly_a458 hL)) hv ?_
        refine ex_callS (as := [.int (I4 458 ((30 : Int32) + y1).toNatClampNeg)]) (st := [.int (I4 458 ((7 : Int32) + x1).toNatClampNeg), .int ((7 : Int32) + x1), .ref 458]) dX12_winds_127 zmX12_dy zl_RX12_371 zsX12_dy rfl (Nat.le_of_ble_eq_true rfl) (Nat.le_of_ble_eq_true rfl) M_dy ?_
        refine ex_step (pc' := 131) dX12_winds_130 rfl ?_
        obtain ⟨hv, h⟩ := h
        refine ex_iastN dX12_winds_131 (ly_a458 hL) hv (fun I5 eI5 => ?_)
        have h := h I5 eI5
        refine ex_step (pc' := 133) (st' := [.int 1]) dX12_winds_132 rfl ?_
        rw [h]; exact ex_ret (v := some (.int 1)) ⟨dX12_winds_133, _, rfl, rfl⟩
      · have h := h.2 c
        refine ex_step (pc' := 73) (st' := [.int 0]) dX12_winds_72 rfl ?_
        rw [h]; exact ex_ret (v := some (.int 0)) ⟨dX12_winds_73, _, rfl, rfl⟩
    · have h := h.2 (Classical.not_not.mp c)
      refine ex_step (pc' := 26) (st' := [.int 0]) dX12_winds_25 rfl ?_
      rw [h]; exact ex_ret (v := some (.int 0)) ⟨dX12_winds_26, _, rfl, rfl⟩
set_option maxHeartbeats 4000000 in
theorem BX12_minuteGoes_0 {d : Nat} {Z : zZ} {I : zI} {J : zJ} {o : zO} {t u : Nat}  (hL : zLY Z t u)  (h : zE (d + 5) kX12_minuteGoes 2 [some (.ref 420), some (.int 0), none] [] Z I J o) : zE (d + 5) kX12_minuteGoes 0 [some (.ref 420), none, none] [] Z I J o := by
  refine ex_step (pc' := 1) (st' := [.int 0]) dX12_minuteGoes_0 rfl ?_
  refine ex_step (pc' := 2) (ls' := [some (.ref 420), some (.int 0), none]) dX12_minuteGoes_1 rfl ?_
  exact h
set_option maxHeartbeats 4000000 in
theorem BX12_minuteGoes_2 {d : Nat} {Z : zZ} {I : zI} {J : zJ} {o : zO} {t u : Nat} (x1 : Int32) (hL : zLY Z t u)  (h : (vp_in (I 420 18) 2 ∧ (((I 431 (I 420 18).toNatClampNeg) ≤ x1 → (∀ I1 : zI, I1 = zu I 458 28 ((I 458 28) + 1) → o = (none, Z, I1, J))) ∧ (¬ (I 431 (I 420 18).toNatClampNeg) ≤ x1 → (vp_in ((21 : Int32) + x1) 1290 ∧ (((I 458 ((21 : Int32) + x1).toNatClampNeg) = 1 → zE (d + 5) kX12_minuteGoes 2 [some (.ref 420), some (.int (x1 + 1)), none] [] Z I J o) ∧ (¬ (I 458 ((21 : Int32) + x1).toNatClampNeg) = 1 → (vp_in x1 7 ∧ (((I 459 x1.toNatClampNeg) ≤ (I 458 28) → (∃ (v2 : Int32) (I3 : zI), zE (d + 4) kX12_goesOf 0 [some (.ref 420), some (.int x1), none, none, none] [] Z I J (some (.int v2), Z, I3, J) ∧ (((zbi (1 ≤ v2 ∧ v2 ≤ 4)) = 0 → ((¬ v2 = 5 → zE (d + 5) kX12_minuteGoes 2 [some (.ref 420), some (.int (x1 + 1)), none] [] Z I3 J o) ∧ (v2 = 5 → (∃ (v4 : Int32) (I5 : zI), zE (d + 4) kX12_winds 0 [some (.ref 420), some (.int x1), none] [] Z I3 J (some (.int v4), Z, I5, J) ∧ zE (d + 5) kX12_minuteGoes 2 [some (.ref 420), some (.int (x1 + 1)), none] [] Z I5 J o)))) ∧ (¬ (zbi (1 ≤ v2 ∧ v2 ≤ 4)) = 0 → (∃ (v6 : Int32) (I7 : zI), zE (d + 4) kX12_steps 0 [some (.ref 420), some (.int x1), some (.int v2), none, none, none] [] Z I3 J (some (.int v6), Z, I7, J) ∧ ((¬ v2 = 5 → zE (d + 5) kX12_minuteGoes 2 [some (.ref 420), some (.int (x1 + 1)), none] [] Z I7 J o) ∧ (v2 = 5 → (∃ (v8 : Int32) (I9 : zI), zE (d + 4) kX12_winds 0 [some (.ref 420), some (.int x1), none] [] Z I7 J (some (.int v8), Z, I9, J) ∧ zE (d + 5) kX12_minuteGoes 2 [some (.ref 420), some (.int (x1 + 1)), none] [] Z I9 J o)))))))) ∧ (¬ (I 459 x1.toNatClampNeg) ≤ (I 458 28) → zE (d + 5) kX12_minuteGoes 2 [some (.ref 420), some (.int (x1 + 1)), none] [] Z I J o)))))))))) : zE (d + 5) kX12_minuteGoes 2 [some (.ref 420), some (.int x1), none] [] Z I J o := by
  refine ex_step (pc' := 3) dX12_minuteGoes_2 rfl ?_
  refine ex_step (pc' := 4) dX12_minuteGoes_3 rfl ?_
  refine ex_getr dX12_minuteGoes_4 wf_RX12_49 (ly_a420 hL) rfl (ly_r420_24 hL) ?_
  refine ex_step (pc' := 8) dX12_minuteGoes_7 rfl ?_
  refine ex_geti dX12_minuteGoes_8 wf_RX12_258 (ly_a420 hL) rfl ?_
  obtain ⟨hv, h⟩ := h
  refine ex_iald dX12_minuteGoes_11 (Or.inl (ly_a431 hL)) hv ?_
  refine ex_icmp (pc' := 86) dX12_minuteGoes_12 (by decide) (fun c => ?_) (fun c => ?_)
  · have h := h.1 c
    refine ex_step (pc' := 87) dX12_minuteGoes_86 rfl ?_
    refine ex_getr dX12_minuteGoes_87 wf_RX12_131 (ly_a420 hL) rfl (ly_r420_56 hL) ?_
    refine ex_step (pc' := 92) (st' := [.int 28, .ref 458]) dX12_minuteGoes_90 rfl ?_
    refine ex_step (pc' := 93) dX12_minuteGoes_92 rfl ?_
    have hv : vp_in 28 1290 := by unfold vp_in; decide
    refine ex_iald dX12_minuteGoes_93 (Or.inl (ly_a458 hL)) hv ?_
    refine ex_step (pc' := 95) (st' := [.int 1, .int (I 458 28), .int 28, .ref 458]) dX12_minuteGoes_94 rfl ?_
    refine ex_step (pc' := 96) dX12_minuteGoes_95 rfl ?_
    have hv : vp_in 28 1290 := by unfold vp_in; decide
    refine ex_iastN dX12_minuteGoes_96 (ly_a458 hL) hv (fun I1 eI1 => ?_)
    have h := h I1 eI1
    rw [h]; exact ex_ret (v := none) ⟨dX12_minuteGoes_97, rfl⟩
  · have h := h.2 c
    refine ex_step (pc' := 16) dX12_minuteGoes_15 rfl ?_
    refine ex_getr dX12_minuteGoes_16 wf_RX12_131 (ly_a420 hL) rfl (ly_r420_56 hL) ?_
    refine ex_step (pc' := 21) (st' := [.int 21, .ref 458]) dX12_minuteGoes_19 rfl ?_
    refine ex_step (pc' := 22) dX12_minuteGoes_21 rfl ?_
    refine ex_step (pc' := 23) dX12_minuteGoes_22 rfl ?_
    obtain ⟨hv, h⟩ := h
    refine ex_iald dX12_minuteGoes_23 (Or.inl (ly_a458 hL)) hv ?_
    refine ex_step (pc' := 25) (st' := [.int 1, .int (I 458 ((21 : Int32) + x1).toNatClampNeg)]) dX12_minuteGoes_24 rfl ?_
    refine ex_icmp (pc' := 80) dX12_minuteGoes_25 (by decide) (fun c => ?_) (fun c => ?_)
    · have h := h.1 c
      refine ex_step (pc' := 83) (ls' := [some (.ref 420), some (.int (x1 + 1)), none]) dX12_minuteGoes_80 rfl ?_
      refine ex_step (pc' := 2) dX12_minuteGoes_83 rfl ?_
      exact h
    · have h := h.2 c
      refine ex_step (pc' := 29) dX12_minuteGoes_28 rfl ?_
      refine ex_getr dX12_minuteGoes_29 wf_RX12_131 (ly_a420 hL) rfl (ly_r420_56 hL) ?_
      refine ex_step (pc' := 34) (st' := [.int 28, .ref 458]) dX12_minuteGoes_32 rfl ?_
      have hv : vp_in 28 1290 := by unfold vp_in; decide
      refine ex_iald dX12_minuteGoes_34 (Or.inl (ly_a458 hL)) hv ?_
      refine ex_step (pc' := 36) dX12_minuteGoes_35 rfl ?_
      refine ex_getr dX12_minuteGoes_36 wf_RX12_134 (ly_a420 hL) rfl (ly_r420_57 hL) ?_
      refine ex_step (pc' := 40) dX12_minuteGoes_39 rfl ?_
      obtain ⟨hv, h⟩ := h
      refine ex_iald dX12_minuteGoes_40 (Or.inl (ly_a459 hL)) hv ?_
      refine ex_icmp (pc' := 47) dX12_minuteGoes_41 (by decide) (fun c => ?_) (fun c => ?_)
      · have h := h.1 c
        refine ex_step (pc' := 48) dX12_minuteGoes_47 rfl ?_
        refine ex_step (pc' := 49) dX12_minuteGoes_48 rfl ?_
        obtain ⟨v2, I3, hc, h⟩ := h
        refine ex_callV (as := [.int x1]) (st := []) (ci := 12) dX12_minuteGoes_49 zmX12_goesOf zl_RX12_385 ziX12_goesOf zvX12_goesOf (by decide) (ly_a420 hL) rfl (Nat.le_of_ble_eq_true rfl) (Nat.le_of_ble_eq_true rfl) hc ?_
        refine ex_step (pc' := 53) (ls' := [some (.ref 420), some (.int x1), some (.int v2)]) dX12_minuteGoes_52 rfl ?_
        refine ex_step (pc' := 54) dX12_minuteGoes_53 rfl ?_
        refine ex_step (pc' := 55) (st' := [.int 1, .int v2]) dX12_minuteGoes_54 rfl ?_
        refine ex_step (pc' := 56) (st' := [.int 4, .int 1, .int v2]) dX12_minuteGoes_55 rfl ?_
        refine ex_callS (as := [.int v2, .int 1, .int 4]) (st := []) dX12_minuteGoes_56 zmX12_in zl_RX12_345 zsX12_in rfl (Nat.le_of_ble_eq_true rfl) (Nat.le_of_ble_eq_true rfl) M_in ?_
        refine ex_if (pc' := 69) dX12_minuteGoes_59 (by decide) (fun c => ?_) (fun c => ?_)
        · have h := h.1 c
          refine ex_step (pc' := 70) dX12_minuteGoes_69 rfl ?_
          refine ex_step (pc' := 71) (st' := [.int 5, .int v2]) dX12_minuteGoes_70 rfl ?_
          refine ex_icmp (pc' := 80) dX12_minuteGoes_71 (by decide) (fun c => ?_) (fun c => ?_)
          · have h := h.1 c
            refine ex_step (pc' := 83) (ls' := [some (.ref 420), some (.int (x1 + 1)), some (.int v2)]) dX12_minuteGoes_80 rfl ?_
            refine ex_step (pc' := 2) dX12_minuteGoes_83 rfl ?_
            exact ex_less (ls' := [some (.ref 420), some (.int (x1 + 1)), none]) ⟨rfl, ⟨rfl, trivial⟩⟩ h
          · have h := h.2 (Classical.not_not.mp c)
            refine ex_step (pc' := 75) dX12_minuteGoes_74 rfl ?_
            refine ex_step (pc' := 76) dX12_minuteGoes_75 rfl ?_
            obtain ⟨v4, I5, hc, h⟩ := h
            refine ex_callV (as := [.int x1]) (st := []) (ci := 12) dX12_minuteGoes_76 zmX12_winds zl_RX12_391 ziX12_winds zvX12_winds (by decide) (ly_a420 hL) rfl (Nat.le_of_ble_eq_true rfl) (Nat.le_of_ble_eq_true rfl) hc ?_
            refine ex_step (pc' := 80) dX12_minuteGoes_79 rfl ?_
            refine ex_step (pc' := 83) (ls' := [some (.ref 420), some (.int (x1 + 1)), some (.int v2)]) dX12_minuteGoes_80 rfl ?_
            refine ex_step (pc' := 2) dX12_minuteGoes_83 rfl ?_
            exact ex_less (ls' := [some (.ref 420), some (.int (x1 + 1)), none]) ⟨rfl, ⟨rfl, trivial⟩⟩ h
        · have h := h.2 c
          refine ex_step (pc' := 63) dX12_minuteGoes_62 rfl ?_
          refine ex_step (pc' := 64) dX12_minuteGoes_63 rfl ?_
          refine ex_step (pc' := 65) dX12_minuteGoes_64 rfl ?_
          obtain ⟨v6, I7, hc, h⟩ := h
          refine ex_callV (as := [.int x1, .int v2]) (st := []) (ci := 12) dX12_minuteGoes_65 zmX12_steps zl_RX12_388 ziX12_steps zvX12_steps (by decide) (ly_a420 hL) rfl (Nat.le_of_ble_eq_true rfl) (Nat.le_of_ble_eq_true rfl) hc ?_
          refine ex_step (pc' := 69) dX12_minuteGoes_68 rfl ?_
          refine ex_step (pc' := 70) dX12_minuteGoes_69 rfl ?_
          refine ex_step (pc' := 71) (st' := [.int 5, .int v2]) dX12_minuteGoes_70 rfl ?_
          refine ex_icmp (pc' := 80) dX12_minuteGoes_71 (by decide) (fun c => ?_) (fun c => ?_)
          · have h := h.1 c
            refine ex_step (pc' := 83) (ls' := [some (.ref 420), some (.int (x1 + 1)), some (.int v2)]) dX12_minuteGoes_80 rfl ?_
            refine ex_step (pc' := 2) dX12_minuteGoes_83 rfl ?_
            exact ex_less (ls' := [some (.ref 420), some (.int (x1 + 1)), none]) ⟨rfl, ⟨rfl, trivial⟩⟩ h
          · have h := h.2 (Classical.not_not.mp c)
            refine ex_step (pc' := 75) dX12_minuteGoes_74 rfl ?_
            refine ex_step (pc' := 76) dX12_minuteGoes_75 rfl ?_
            obtain ⟨v8, I9, hc, h⟩ := h
            refine ex_callV (as := [.int x1]) (st := []) (ci := 12) dX12_minuteGoes_76 zmX12_winds zl_RX12_391 ziX12_winds zvX12_winds (by decide) (ly_a420 hL) rfl (Nat.le_of_ble_eq_true rfl) (Nat.le_of_ble_eq_true rfl) hc ?_
            refine ex_step (pc' := 80) dX12_minuteGoes_79 rfl ?_
            refine ex_step (pc' := 83) (ls' := [some (.ref 420), some (.int (x1 + 1)), some (.int v2)]) dX12_minuteGoes_80 rfl ?_
            refine ex_step (pc' := 2) dX12_minuteGoes_83 rfl ?_
            exact ex_less (ls' := [some (.ref 420), some (.int (x1 + 1)), none]) ⟨rfl, ⟨rfl, trivial⟩⟩ h
      · have h := h.2 c
        refine ex_step (pc' := 80) dX12_minuteGoes_44 rfl ?_
        refine ex_step (pc' := 83) (ls' := [some (.ref 420), some (.int (x1 + 1)), none]) dX12_minuteGoes_80 rfl ?_
        refine ex_step (pc' := 2) dX12_minuteGoes_83 rfl ?_
        exact h
set_option maxHeartbeats 4000000 in
theorem BX12_man_0 {d : Nat} {Z : zZ} {I : zI} {J : zJ} {o : zO} {t u : Nat} (x1 : Int32) (x2 : Int32) (hL : zLY Z t u)  (h : (∃ (v1 : Int32), zE (d + 4) kX12_isMan 0 [some (.ref 420), some (.int x1)] [] Z I J (some (.int v1), Z, I, J) ∧ ((¬ v1 = 0 → (∃ (I2 : zI), zE (d + 4) kX12_copies 0 [some (.ref 420), none] [] Z I J (none, Z, I2, J) ∧ ((x2.toInt < 0 ∨ 7 < x2.toInt → o = (some (.int (-1)), Z, I2, J)) ∧ (x2 = 0 → (vp_in x1 1290 ∧ o = (some (.int (I2 458 x1.toNatClampNeg)), Z, I2, J))) ∧ (x2 = 1 → (vp_in ((7 : Int32) + x1) 1290 ∧ o = (some (.int (I2 458 ((7 : Int32) + x1).toNatClampNeg)), Z, I2, J))) ∧ (x2 = 2 → (vp_in ((14 : Int32) + x1) 1290 ∧ o = (some (.int (I2 458 ((14 : Int32) + x1).toNatClampNeg)), Z, I2, J))) ∧ (x2 = 3 → (∃ (v3 : Int32) (I4 : zI), zE (d + 4) kX12_leftOf 0 [some (.ref 420), some (.int x1)] [] Z I2 J (some (.int v3), Z, I4, J) ∧ o = (some (.int v3), Z, I4, J))) ∧ (x2 = 4 → (vp_in ((21 : Int32) + x1) 1290 ∧ o = (some (.int (I2 458 ((21 : Int32) + x1).toNatClampNeg)), Z, I2, J))) ∧ (x2 = 5 → (vp_in x1 1290 ∧ (vp_in (((7 : Int32) * (I2 420 18)) + x1) 14 ∧ (vp_in ((7 : Int32) + x1) 1290 ∧ (vp_in (((7 : Int32) * (I2 420 18)) + x1) 14 ∧ o = (some (.int ((zap (I2 458 x1.toNatClampNeg) (I2 432 (((7 : Int32) * (I2 420 18)) + x1).toNatClampNeg)) + (zap (I2 458 ((7 : Int32) + x1).toNatClampNeg) (I2 433 (((7 : Int32) * (I2 420 18)) + x1).toNatClampNeg)))), Z, I2, J)))))) ∧ (x2 = 6 → (vp_in ((21 : Int32) + x1) 1290 ∧ ((¬ (I2 458 ((21 : Int32) + x1).toNatClampNeg) = 1 → (∃ (v5 : Int32) (I6 : zI), zE (d + 4) kX12_goesOf 0 [some (.ref 420), some (.int x1), none, none, none] [] Z I2 J (some (.int v5), Z, I6, J) ∧ o = (some (.int v5), Z, I6, J))) ∧ ((I2 458 ((21 : Int32) + x1).toNatClampNeg) = 1 → o = (some (.int 0), Z, I2, J))))) ∧ (x2 = 7 → (vp_in (((7 : Int32) * (I2 420 18)) + x1) 14 ∧ o = (some (.int (I2 434 (((7 : Int32) * (I2 420 18)) + x1).toNatClampNeg)), Z, I2, J)))))) ∧ (v1 = 0 → o = (some (.int (-1)), Z, I, J))))) : zE (d + 5) kX12_man 0 [some (.ref 420), some (.int x1), some (.int x2)] [] Z I J o := by
  refine ex_step (pc' := 1) dX12_man_0 rfl ?_
  refine ex_step (pc' := 2) dX12_man_1 rfl ?_
  obtain ⟨v1, hc, h⟩ := h
  refine ex_callV (as := [.int x1]) (st := []) (ci := 12) dX12_man_2 zmX12_isMan zl_RX12_394 ziX12_isMan zvX12_isMan (by decide) (ly_a420 hL) rfl (Nat.le_of_ble_eq_true rfl) (Nat.le_of_ble_eq_true rfl) hc ?_
  refine ex_if (pc' := 10) dX12_man_5 (by decide) (fun c => ?_) (fun c => ?_)
  · have h := h.1 c
    refine ex_step (pc' := 11) dX12_man_10 rfl ?_
    obtain ⟨I2, hc, h⟩ := h
    refine ex_callV (as := []) (st := []) (ci := 12) dX12_man_11 zmX12_copies zl_RX12_397 ziX12_copies zvX12_copies (by decide) (ly_a420 hL) rfl (Nat.le_of_ble_eq_true rfl) (Nat.le_of_ble_eq_true rfl) hc ?_
    refine ex_step (pc' := 15) dX12_man_14 rfl ?_
    refine ex_tab dX12_man_15 (fun c => ?_) (fun k off hk ho hx => ?_)
    · refine ⟨192, by decide, ?_⟩
      have h := h.1 c
      refine ex_step (pc' := 193) (st' := [.int (-1)]) dX12_man_192 rfl ?_
      rw [h]; exact ex_ret (v := some (.int (-1))) ⟨dX12_man_193, _, rfl, rfl⟩
    · have h := h.2
      match k, hk, ho, hx with
      | 0, hk, ho, hx =>
        cases ho
        refine ⟨60, by decide, ?_⟩
        have h := h.1 (Int32.toInt_inj.mp (hx.trans (by decide)))
        refine ex_step (pc' := 61) dX12_man_60 rfl ?_
        refine ex_getr dX12_man_61 wf_RX12_131 (ly_a420 hL) rfl (ly_r420_56 hL) ?_
        refine ex_step (pc' := 65) dX12_man_64 rfl ?_
        obtain ⟨hv, h⟩ := h
        refine ex_iald dX12_man_65 (Or.inl (ly_a458 hL)) hv ?_
        rw [h]; exact ex_ret (v := some (.int (I2 458 x1.toNatClampNeg))) ⟨dX12_man_66, _, rfl, rfl⟩
      | 1, hk, ho, hx =>
        cases ho
        refine ⟨67, by decide, ?_⟩
        have h := h.2.1 (Int32.toInt_inj.mp (hx.trans (by decide)))
        refine ex_step (pc' := 68) dX12_man_67 rfl ?_
        refine ex_getr dX12_man_68 wf_RX12_131 (ly_a420 hL) rfl (ly_r420_56 hL) ?_
        refine ex_step (pc' := 73) (st' := [.int 7, .ref 458]) dX12_man_71 rfl ?_
        refine ex_step (pc' := 74) dX12_man_73 rfl ?_
        refine ex_step (pc' := 75) dX12_man_74 rfl ?_
        obtain ⟨hv, h⟩ := h
        refine ex_iald dX12_man_75 (Or.inl (ly_a458 hL)) hv ?_
        rw [h]; exact ex_ret (v := some (.int (I2 458 ((7 : Int32) + x1).toNatClampNeg))) ⟨dX12_man_76, _, rfl, rfl⟩
      | 2, hk, ho, hx =>
        cases ho
        refine ⟨77, by decide, ?_⟩
        have h := h.2.2.1 (Int32.toInt_inj.mp (hx.trans (by decide)))
        refine ex_step (pc' := 78) dX12_man_77 rfl ?_
        refine ex_getr dX12_man_78 wf_RX12_131 (ly_a420 hL) rfl (ly_r420_56 hL) ?_
        refine ex_step (pc' := 83) (st' := [.int 14, .ref 458]) dX12_man_81 rfl ?_
        refine ex_step (pc' := 84) dX12_man_83 rfl ?_
        refine ex_step (pc' := 85) dX12_man_84 rfl ?_
        obtain ⟨hv, h⟩ := h
        refine ex_iald dX12_man_85 (Or.inl (ly_a458 hL)) hv ?_
        rw [h]; exact ex_ret (v := some (.int (I2 458 ((14 : Int32) + x1).toNatClampNeg))) ⟨dX12_man_86, _, rfl, rfl⟩
      | 3, hk, ho, hx =>
        cases ho
        refine ⟨87, by decide, ?_⟩
        have h := h.2.2.2.1 (Int32.toInt_inj.mp (hx.trans (by decide)))
        refine ex_step (pc' := 88) dX12_man_87 rfl ?_
        refine ex_step (pc' := 89) dX12_man_88 rfl ?_
        obtain ⟨v3, I4, hc, h⟩ := h
        refine ex_callV (as := [.int x1]) (st := []) (ci := 12) dX12_man_89 zmX12_leftOf zl_RX12_362 ziX12_leftOf zvX12_leftOf (by decide) (ly_a420 hL) rfl (Nat.le_of_ble_eq_true rfl) (Nat.le_of_ble_eq_true rfl) hc ?_
        rw [h]; exact ex_ret (v := some (.int v3)) ⟨dX12_man_92, _, rfl, rfl⟩
      | 4, hk, ho, hx =>
        cases ho
        refine ⟨93, by decide, ?_⟩
        have h := h.2.2.2.2.1 (Int32.toInt_inj.mp (hx.trans (by decide)))
        refine ex_step (pc' := 94) dX12_man_93 rfl ?_
        refine ex_getr dX12_man_94 wf_RX12_131 (ly_a420 hL) rfl (ly_r420_56 hL) ?_
        refine ex_step (pc' := 99) (st' := [.int 21, .ref 458]) dX12_man_97 rfl ?_
        refine ex_step (pc' := 100) dX12_man_99 rfl ?_
        refine ex_step (pc' := 101) dX12_man_100 rfl ?_
        obtain ⟨hv, h⟩ := h
        refine ex_iald dX12_man_101 (Or.inl (ly_a458 hL)) hv ?_
        rw [h]; exact ex_ret (v := some (.int (I2 458 ((21 : Int32) + x1).toNatClampNeg))) ⟨dX12_man_102, _, rfl, rfl⟩
      | 5, hk, ho, hx =>
        cases ho
        refine ⟨103, by decide, ?_⟩
        have h := h.2.2.2.2.2.1 (Int32.toInt_inj.mp (hx.trans (by decide)))
        refine ex_step (pc' := 104) dX12_man_103 rfl ?_
        refine ex_getr dX12_man_104 wf_RX12_131 (ly_a420 hL) rfl (ly_r420_56 hL) ?_
        refine ex_step (pc' := 108) dX12_man_107 rfl ?_
        obtain ⟨hv, h⟩ := h
        refine ex_iald dX12_man_108 (Or.inl (ly_a458 hL)) hv ?_
        refine ex_step (pc' := 110) dX12_man_109 rfl ?_
        refine ex_getr dX12_man_110 wf_RX12_52 (ly_a420 hL) rfl (ly_r420_25 hL) ?_
        refine ex_step (pc' := 115) (st' := [.int 7, .ref 432, .int (I2 458 x1.toNatClampNeg)]) dX12_man_113 rfl ?_
        refine ex_step (pc' := 116) dX12_man_115 rfl ?_
        refine ex_geti dX12_man_116 wf_RX12_258 (ly_a420 hL) rfl ?_
        refine ex_step (pc' := 120) dX12_man_119 rfl ?_
        refine ex_step (pc' := 121) dX12_man_120 rfl ?_
        refine ex_step (pc' := 122) dX12_man_121 rfl ?_
        obtain ⟨hv, h⟩ := h
        refine ex_iald dX12_man_122 (Or.inl (ly_a432 hL)) hv ?_
        refine ex_callS (as := [.int (I2 458 x1.toNatClampNeg), .int (I2 432 (((7 : Int32) * (I2 420 18)) + x1).toNatClampNeg)]) (st := []) dX12_man_123 zmX12_apart zl_RX12_400 zsX12_apart rfl (Nat.le_of_ble_eq_true rfl) (Nat.le_of_ble_eq_true rfl) M_apart ?_
        refine ex_step (pc' := 127) dX12_man_126 rfl ?_
        refine ex_getr dX12_man_127 wf_RX12_131 (ly_a420 hL) rfl (ly_r420_56 hL) ?_
        refine ex_step (pc' := 132) (st' := [.int 7, .ref 458, .int (zap (I2 458 x1.toNatClampNeg) (I2 432 (((7 : Int32) * (I2 420 18)) + x1).toNatClampNeg))]) dX12_man_130 rfl ?_
        refine ex_step (pc' := 133) dX12_man_132 rfl ?_
        refine ex_step (pc' := 134) dX12_man_133 rfl ?_
        obtain ⟨hv, h⟩ := h
        refine ex_iald dX12_man_134 (Or.inl (ly_a458 hL)) hv ?_
        refine ex_step (pc' := 136) dX12_man_135 rfl ?_
        refine ex_getr dX12_man_136 wf_RX12_55 (ly_a420 hL) rfl (ly_r420_26 hL) ?_
        refine ex_step (pc' := 141) (st' := [.int 7, .ref 433, .int (I2 458 ((7 : Int32) + x1).toNatClampNeg), .int (zap (I2 458 x1.toNatClampNeg) (I2 432 (((7 : Int32) * (I2 420 18)) + x1).toNatClampNeg))]) dX12_man_139 rfl ?_
        refine ex_step (pc' := 142) dX12_man_141 rfl ?_
        refine ex_geti dX12_man_142 wf_RX12_258 (ly_a420 hL) rfl ?_
        refine ex_step (pc' := 146) dX12_man_145 rfl ?_
        refine ex_step (pc' := 147) dX12_man_146 rfl ?_
        refine ex_step (pc' := 148) dX12_man_147 rfl ?_
        obtain ⟨hv, h⟩ := h
        refine ex_iald dX12_man_148 (Or.inl (ly_a433 hL)) hv ?_
        refine ex_callS (as := [.int (I2 458 ((7 : Int32) + x1).toNatClampNeg), .int (I2 433 (((7 : Int32) * (I2 420 18)) + x1).toNatClampNeg)]) (st := [.int (zap (I2 458 x1.toNatClampNeg) (I2 432 (((7 : Int32) * (I2 420 18)) + x1).toNatClampNeg))]) dX12_man_149 zmX12_apart zl_RX12_400 zsX12_apart rfl (Nat.le_of_ble_eq_true rfl) (Nat.le_of_ble_eq_true rfl) M_apart ?_
        refine ex_step (pc' := 153) dX12_man_152 rfl ?_
        rw [h]; exact ex_ret (v := some (.int ((zap (I2 458 x1.toNatClampNeg) (I2 432 (((7 : Int32) * (I2 420 18)) + x1).toNatClampNeg)) + (zap (I2 458 ((7 : Int32) + x1).toNatClampNeg) (I2 433 (((7 : Int32) * (I2 420 18)) + x1).toNatClampNeg))))) ⟨dX12_man_153, _, rfl, rfl⟩
      | 6, hk, ho, hx =>
        cases ho
        refine ⟨154, by decide, ?_⟩
        have h := h.2.2.2.2.2.2.1 (Int32.toInt_inj.mp (hx.trans (by decide)))
        refine ex_step (pc' := 155) dX12_man_154 rfl ?_
        refine ex_getr dX12_man_155 wf_RX12_131 (ly_a420 hL) rfl (ly_r420_56 hL) ?_
        refine ex_step (pc' := 160) (st' := [.int 21, .ref 458]) dX12_man_158 rfl ?_
        refine ex_step (pc' := 161) dX12_man_160 rfl ?_
        refine ex_step (pc' := 162) dX12_man_161 rfl ?_
        obtain ⟨hv, h⟩ := h
        refine ex_iald dX12_man_162 (Or.inl (ly_a458 hL)) hv ?_
        refine ex_step (pc' := 164) (st' := [.int 1, .int (I2 458 ((21 : Int32) + x1).toNatClampNeg)]) dX12_man_163 rfl ?_
        refine ex_icmp (pc' := 171) dX12_man_164 (by decide) (fun c => ?_) (fun c => ?_)
        · have h := h.1 c
          refine ex_step (pc' := 172) dX12_man_171 rfl ?_
          refine ex_step (pc' := 173) dX12_man_172 rfl ?_
          obtain ⟨v5, I6, hc, h⟩ := h
          refine ex_callV (as := [.int x1]) (st := []) (ci := 12) dX12_man_173 zmX12_goesOf zl_RX12_385 ziX12_goesOf zvX12_goesOf (by decide) (ly_a420 hL) rfl (Nat.le_of_ble_eq_true rfl) (Nat.le_of_ble_eq_true rfl) hc ?_
          rw [h]; exact ex_ret (v := some (.int v5)) ⟨dX12_man_176, _, rfl, rfl⟩
        · have h := h.2 (Classical.not_not.mp c)
          refine ex_step (pc' := 168) (st' := [.int 0]) dX12_man_167 rfl ?_
          refine ex_step (pc' := 176) dX12_man_168 rfl ?_
          rw [h]; exact ex_ret (v := some (.int 0)) ⟨dX12_man_176, _, rfl, rfl⟩
      | 7, hk, ho, hx =>
        cases ho
        refine ⟨177, by decide, ?_⟩
        have h := h.2.2.2.2.2.2.2 (Int32.toInt_inj.mp (hx.trans (by decide)))
        refine ex_step (pc' := 178) dX12_man_177 rfl ?_
        refine ex_getr dX12_man_178 wf_RX12_58 (ly_a420 hL) rfl (ly_r420_27 hL) ?_
        refine ex_step (pc' := 183) (st' := [.int 7, .ref 434]) dX12_man_181 rfl ?_
        refine ex_step (pc' := 184) dX12_man_183 rfl ?_
        refine ex_geti dX12_man_184 wf_RX12_258 (ly_a420 hL) rfl ?_
        refine ex_step (pc' := 188) dX12_man_187 rfl ?_
        refine ex_step (pc' := 189) dX12_man_188 rfl ?_
        refine ex_step (pc' := 190) dX12_man_189 rfl ?_
        obtain ⟨hv, h⟩ := h
        refine ex_iald dX12_man_190 (Or.inl (ly_a434 hL)) hv ?_
        rw [h]; exact ex_ret (v := some (.int (I2 434 (((7 : Int32) * (I2 420 18)) + x1).toNatClampNeg))) ⟨dX12_man_191, _, rfl, rfl⟩
      | (k + 8), hk, ho, hx => exact absurd hk (by simp)
  · have h := h.2 (Classical.not_not.mp c)
    refine ex_step (pc' := 9) (st' := [.int (-1)]) dX12_man_8 rfl ?_
    rw [h]; exact ex_ret (v := some (.int (-1))) ⟨dX12_man_9, _, rfl, rfl⟩
set_option maxHeartbeats 4000000 in
theorem BX12_piece_0 {d : Nat} {Z : zZ} {I : zI} {J : zJ} {o : zO} {t u : Nat} (x1 : Int32) (x2 : Int32) (x3 : Int32) (hL : zLY Z t u)  (h : (∃ (v1 : Int32), zE (d + 1) kX12_isMan 0 [some (.ref 420), some (.int x1)] [] Z I J (some (.int v1), Z, I, J) ∧ ((v1 = 0 → o = (some (.int (-1)), Z, I, J)) ∧ (¬ v1 = 0 → (vp_in ((14 : Int32) + x1) 1290 ∧ (((zbi (0 ≤ x2 ∧ x2 ≤ ((I 457 ((14 : Int32) + x1).toNatClampNeg) - 1))) = 0 → o = (some (.int (-1)), Z, I, J)) ∧ (¬ (zbi (0 ≤ x2 ∧ x2 ≤ ((I 457 ((14 : Int32) + x1).toNatClampNeg) - 1))) = 0 → ((¬ (zbi (0 ≤ x3 ∧ x3 ≤ 2)) = 0 → (∃ (I2 : zI), zE (d + 1) kX12_copies 0 [some (.ref 420), none] [] Z I J (none, Z, I2, J) ∧ (∀ y3 : Int32, y3 = (((60 : Int32) * x1) + x2) → ((¬ x3 = 0 → (vp_in ((870 : Int32) + y3) 1290 ∧ (vp_in ((450 : Int32) + y3) 1290 ∧ ((¬ x3 = 2 → (∃ (v4 : Int32), zE (d + 1) kX12_others 0 [some (.ref 420), some (.int (I2 458 ((870 : Int32) + y3).toNatClampNeg)), some (.int (I2 458 ((450 : Int32) + y3).toNatClampNeg)), some (.int 0), none, none, none, none] [] Z I2 J (some (.int v4), Z, I2, J) ∧ o = (some (.int v4), Z, I2, J))) ∧ (x3 = 2 → (∃ (v5 : Int32), zE (d + 1) kX12_others 0 [some (.ref 420), some (.int (I2 458 ((870 : Int32) + y3).toNatClampNeg)), some (.int (I2 458 ((450 : Int32) + y3).toNatClampNeg)), some (.int 1), none, none, none, none] [] Z I2 J (some (.int v5), Z, I2, J) ∧ o = (some (.int v5), Z, I2, J))))))) ∧ (x3 = 0 → (vp_in ((30 : Int32) + y3) 1290 ∧ o = (some (.int (I2 458 ((30 : Int32) + y3).toNatClampNeg)), Z, I2, J))))))) ∧ ((zbi (0 ≤ x3 ∧ x3 ≤ 2)) = 0 → o = (some (.int (-1)), Z, I, J)))))))))) : zE (d + 2) kX12_piece 0 [some (.ref 420), some (.int x1), some (.int x2), some (.int x3), none] [] Z I J o := by
  refine ex_step (pc' := 1) dX12_piece_0 rfl ?_
  refine ex_step (pc' := 2) dX12_piece_1 rfl ?_
  obtain ⟨v1, hc, h⟩ := h
  refine ex_callV (as := [.int x1]) (st := []) (ci := 12) dX12_piece_2 zmX12_isMan zl_RX12_394 ziX12_isMan zvX12_isMan (by decide) (ly_a420 hL) rfl (Nat.le_of_ble_eq_true rfl) (Nat.le_of_ble_eq_true rfl) hc ?_
  refine ex_if (pc' := 36) dX12_piece_5 (by decide) (fun c => ?_) (fun c => ?_)
  · have h := h.1 c
    refine ex_step (pc' := 37) (st' := [.int (-1)]) dX12_piece_36 rfl ?_
    rw [h]; exact ex_ret (v := some (.int (-1))) ⟨dX12_piece_37, _, rfl, rfl⟩
  · have h := h.2 c
    refine ex_step (pc' := 9) dX12_piece_8 rfl ?_
    refine ex_step (pc' := 10) (st' := [.int 0, .int x2]) dX12_piece_9 rfl ?_
    refine ex_step (pc' := 11) dX12_piece_10 rfl ?_
    refine ex_getr dX12_piece_11 wf_RX12_128 (ly_a420 hL) rfl (ly_r420_55 hL) ?_
    refine ex_step (pc' := 16) (st' := [.int 14, .ref 457, .int 0, .int x2]) dX12_piece_14 rfl ?_
    refine ex_step (pc' := 17) dX12_piece_16 rfl ?_
    refine ex_step (pc' := 18) dX12_piece_17 rfl ?_
    obtain ⟨hv, h⟩ := h
    refine ex_iald dX12_piece_18 (Or.inl (ly_a457 hL)) hv ?_
    refine ex_step (pc' := 20) (st' := [.int 1, .int (I 457 ((14 : Int32) + x1).toNatClampNeg), .int 0, .int x2]) dX12_piece_19 rfl ?_
    refine ex_step (pc' := 21) dX12_piece_20 rfl ?_
    refine ex_callS (as := [.int x2, .int 0, .int ((I 457 ((14 : Int32) + x1).toNatClampNeg) - 1)]) (st := []) dX12_piece_21 zmX12_in zl_RX12_345 zsX12_in rfl (Nat.le_of_ble_eq_true rfl) (Nat.le_of_ble_eq_true rfl) M_in ?_
    refine ex_if (pc' := 36) dX12_piece_24 (by decide) (fun c => ?_) (fun c => ?_)
    · have h := h.1 c
      refine ex_step (pc' := 37) (st' := [.int (-1)]) dX12_piece_36 rfl ?_
      rw [h]; exact ex_ret (v := some (.int (-1))) ⟨dX12_piece_37, _, rfl, rfl⟩
    · have h := h.2 c
      refine ex_step (pc' := 28) dX12_piece_27 rfl ?_
      refine ex_step (pc' := 29) (st' := [.int 0, .int x3]) dX12_piece_28 rfl ?_
      refine ex_step (pc' := 30) (st' := [.int 2, .int 0, .int x3]) dX12_piece_29 rfl ?_
      refine ex_callS (as := [.int x3, .int 0, .int 2]) (st := []) dX12_piece_30 zmX12_in zl_RX12_345 zsX12_in rfl (Nat.le_of_ble_eq_true rfl) (Nat.le_of_ble_eq_true rfl) M_in ?_
      refine ex_if (pc' := 38) dX12_piece_33 (by decide) (fun c => ?_) (fun c => ?_)
      · have h := h.1 c
        refine ex_step (pc' := 39) dX12_piece_38 rfl ?_
        obtain ⟨I2, hc, h⟩ := h
        refine ex_callV (as := []) (st := []) (ci := 12) dX12_piece_39 zmX12_copies zl_RX12_397 ziX12_copies zvX12_copies (by decide) (ly_a420 hL) rfl (Nat.le_of_ble_eq_true rfl) (Nat.le_of_ble_eq_true rfl) hc ?_
        refine ex_step (pc' := 44) (st' := [.int 60]) dX12_piece_42 rfl ?_
        refine ex_step (pc' := 45) dX12_piece_44 rfl ?_
        refine ex_step (pc' := 46) dX12_piece_45 rfl ?_
        refine ex_step (pc' := 47) dX12_piece_46 rfl ?_
        refine ex_step (pc' := 48) dX12_piece_47 rfl ?_
        refine ex_topi (fun y3 ey3 => ?_)
        have h := h y3 ey3
        refine ex_step (pc' := 50) (ls' := [some (.ref 420), some (.int x1), some (.int x2), some (.int x3), some (.int y3)]) dX12_piece_48 rfl ?_
        refine ex_step (pc' := 51) dX12_piece_50 rfl ?_
        refine ex_if (pc' := 67) dX12_piece_51 (by decide) (fun c => ?_) (fun c => ?_)
        · have h := h.1 c
          refine ex_step (pc' := 68) dX12_piece_67 rfl ?_
          refine ex_step (pc' := 69) dX12_piece_68 rfl ?_
          refine ex_getr dX12_piece_69 wf_RX12_131 (ly_a420 hL) rfl (ly_r420_56 hL) ?_
          refine ex_step (pc' := 75) (st' := [.int 870, .ref 458, .ref 420]) dX12_piece_72 rfl ?_
          refine ex_step (pc' := 77) dX12_piece_75 rfl ?_
          refine ex_step (pc' := 78) dX12_piece_77 rfl ?_
          obtain ⟨hv, h⟩ := h
          refine ex_iald dX12_piece_78 (Or.inl (ly_a458 hL)) hv ?_
          refine ex_step (pc' := 80) dX12_piece_79 rfl ?_
          refine ex_getr dX12_piece_80 wf_RX12_131 (ly_a420 hL) rfl (ly_r420_56 hL) ?_
          refine ex_step (pc' := 86) (st' := [.int 450, .ref 458, .int (I2 458 ((870 : Int32) + y3).toNatClampNeg), .ref 420]) dX12_piece_83 rfl ?_
          refine ex_step (pc' := 88) dX12_piece_86 rfl ?_
          refine ex_step (pc' := 89) dX12_piece_88 rfl ?_
          obtain ⟨hv, h⟩ := h
          refine ex_iald dX12_piece_89 (Or.inl (ly_a458 hL)) hv ?_
          refine ex_step (pc' := 91) dX12_piece_90 rfl ?_
          refine ex_step (pc' := 92) (st' := [.int 2, .int x3, .int (I2 458 ((450 : Int32) + y3).toNatClampNeg), .int (I2 458 ((870 : Int32) + y3).toNatClampNeg), .ref 420]) dX12_piece_91 rfl ?_
          refine ex_icmp (pc' := 99) dX12_piece_92 (by decide) (fun c => ?_) (fun c => ?_)
          · have h := h.1 c
            refine ex_step (pc' := 100) (st' := [.int 0, .int (I2 458 ((450 : Int32) + y3).toNatClampNeg), .int (I2 458 ((870 : Int32) + y3).toNatClampNeg), .ref 420]) dX12_piece_99 rfl ?_
            obtain ⟨v4, hc, h⟩ := h
            refine ex_callV (as := [.int (I2 458 ((870 : Int32) + y3).toNatClampNeg), .int (I2 458 ((450 : Int32) + y3).toNatClampNeg), .int 0]) (st := []) (ci := 12) dX12_piece_100 zmX12_others zl_RX12_381 ziX12_others zvX12_others (by decide) (ly_a420 hL) rfl (Nat.le_of_ble_eq_true rfl) (Nat.le_of_ble_eq_true rfl) hc ?_
            rw [h]; exact ex_ret (v := some (.int v4)) ⟨dX12_piece_103, _, rfl, rfl⟩
          · have h := h.2 (Classical.not_not.mp c)
            refine ex_step (pc' := 96) (st' := [.int 1, .int (I2 458 ((450 : Int32) + y3).toNatClampNeg), .int (I2 458 ((870 : Int32) + y3).toNatClampNeg), .ref 420]) dX12_piece_95 rfl ?_
            refine ex_step (pc' := 100) dX12_piece_96 rfl ?_
            obtain ⟨v5, hc, h⟩ := h
            refine ex_callV (as := [.int (I2 458 ((870 : Int32) + y3).toNatClampNeg), .int (I2 458 ((450 : Int32) + y3).toNatClampNeg), .int 1]) (st := []) (ci := 12) dX12_piece_100 zmX12_others zl_RX12_381 ziX12_others zvX12_others (by decide) (ly_a420 hL) rfl (Nat.le_of_ble_eq_true rfl) (Nat.le_of_ble_eq_true rfl) hc ?_
            rw [h]; exact ex_ret (v := some (.int v5)) ⟨dX12_piece_103, _, rfl, rfl⟩
        · have h := h.2 (Classical.not_not.mp c)
          refine ex_step (pc' := 55) dX12_piece_54 rfl ?_
          refine ex_getr dX12_piece_55 wf_RX12_131 (ly_a420 hL) rfl (ly_r420_56 hL) ?_
          refine ex_step (pc' := 60) (st' := [.int 30, .ref 458]) dX12_piece_58 rfl ?_
          refine ex_step (pc' := 62) dX12_piece_60 rfl ?_
          refine ex_step (pc' := 63) dX12_piece_62 rfl ?_
          obtain ⟨hv, h⟩ := h
          refine ex_iald dX12_piece_63 (Or.inl (ly_a458 hL)) hv ?_
          refine ex_step (pc' := 103) dX12_piece_64 rfl ?_
          rw [h]; exact ex_ret (v := some (.int (I2 458 ((30 : Int32) + y3).toNatClampNeg))) ⟨dX12_piece_103, _, rfl, rfl⟩
      · have h := h.2 (Classical.not_not.mp c)
        refine ex_step (pc' := 37) (st' := [.int (-1)]) dX12_piece_36 rfl ?_
        rw [h]; exact ex_ret (v := some (.int (-1))) ⟨dX12_piece_37, _, rfl, rfl⟩
set_option maxHeartbeats 4000000 in
theorem BX12_keeps_0 {d : Nat} {Z : zZ} {I : zI} {J : zJ} {o : zO} {t u : Nat}  (hL : zLY Z t u)  (h : ((¬ (I 420 58) = 30 → zE (d + 1) kX12_keeps 52 [some (.ref 420), some (.int 0)] [] Z I J o) ∧ ((I 420 58) = 30 → zE (d + 1) kX12_keeps 11 [some (.ref 420), some (.int 0)] [] Z I J o))) : zE (d + 1) kX12_keeps 0 [some (.ref 420), none] [] Z I J o := by
  refine ex_step (pc' := 1) dX12_keeps_0 rfl ?_
  refine ex_geti dX12_keeps_1 wf_RX12_283 (ly_a420 hL) rfl ?_
  refine ex_step (pc' := 6) (st' := [.int 30, .int (I 420 58)]) dX12_keeps_4 rfl ?_
  refine ex_icmp (pc' := 50) dX12_keeps_6 (by decide) (fun c => ?_) (fun c => ?_)
  · have h := h.1 c
    refine ex_step (pc' := 51) (st' := [.int 0]) dX12_keeps_50 rfl ?_
    refine ex_step (pc' := 52) (ls' := [some (.ref 420), some (.int 0)]) dX12_keeps_51 rfl ?_
    exact h
  · have h := h.2 (Classical.not_not.mp c)
    refine ex_step (pc' := 10) (st' := [.int 0]) dX12_keeps_9 rfl ?_
    refine ex_step (pc' := 11) (ls' := [some (.ref 420), some (.int 0)]) dX12_keeps_10 rfl ?_
    exact h
set_option maxHeartbeats 4000000 in
theorem BX12_keeps_11 {d : Nat} {Z : zZ} {I : zI} {J : zJ} {o : zO} {t u : Nat} (x1 : Int32) (hL : zLY Z t u)  (h : ((37410 ≤ x1 → (∀ I1 : zI, I1 = zu I 420 58 ((I 420 58) - 1) → zE (d + 1) kX12_keeps 52 [some (.ref 420), some (.int 0)] [] Z I1 J o)) ∧ (¬ 37410 ≤ x1 → (vp_in (x1 + 1290) 38700 ∧ (vp_in x1 38700 ∧ (∀ I2 : zI, I2 = zu I 460 x1.toNatClampNeg (I 460 (x1 + 1290).toNatClampNeg) → zE (d + 1) kX12_keeps 11 [some (.ref 420), some (.int (x1 + 1))] [] Z I2 J o)))))) : zE (d + 1) kX12_keeps 11 [some (.ref 420), some (.int x1)] [] Z I J o := by
  refine ex_step (pc' := 12) dX12_keeps_11 rfl ?_
  refine ex_ldcw dX12_keeps_12 zk_RX12_403 ?_
  refine ex_icmp (pc' := 40) dX12_keeps_15 (by decide) (fun c => ?_) (fun c => ?_)
  · have h := h.1 c
    refine ex_step (pc' := 41) dX12_keeps_40 rfl ?_
    refine ex_step (pc' := 42) dX12_keeps_41 rfl ?_
    refine ex_geti dX12_keeps_42 wf_RX12_283 (ly_a420 hL) rfl ?_
    refine ex_step (pc' := 46) (st' := [.int 1, .int (I 420 58), .ref 420]) dX12_keeps_45 rfl ?_
    refine ex_step (pc' := 47) dX12_keeps_46 rfl ?_
    refine ex_putiN dX12_keeps_47 (wp_RX12_283 _) (ly_a420 hL) rfl ⟨rfl, rfl⟩ (fun I1 eI1 => ?_)
    have h := h I1 eI1
    refine ex_step (pc' := 51) (st' := [.int 0]) dX12_keeps_50 rfl ?_
    refine ex_step (pc' := 52) (ls' := [some (.ref 420), some (.int 0)]) dX12_keeps_51 rfl ?_
    exact h
  · have h := h.2 c
    refine ex_step (pc' := 19) dX12_keeps_18 rfl ?_
    refine ex_getr dX12_keeps_19 wf_RX12_138 (ly_a420 hL) rfl (ly_r420_59 hL) ?_
    refine ex_step (pc' := 23) dX12_keeps_22 rfl ?_
    refine ex_step (pc' := 24) dX12_keeps_23 rfl ?_
    refine ex_getr dX12_keeps_24 wf_RX12_138 (ly_a420 hL) rfl (ly_r420_59 hL) ?_
    refine ex_step (pc' := 28) dX12_keeps_27 rfl ?_
    refine ex_step (pc' := 31) (st' := [.int 1290, .int x1, .ref 460, .int x1, .ref 460]) dX12_keeps_28 rfl ?_
    refine ex_step (pc' := 32) dX12_keeps_31 rfl ?_
    obtain ⟨hv, h⟩ := h
    refine ex_iald dX12_keeps_32 (Or.inl (ly_a460 hL)) hv ?_
    obtain ⟨hv, h⟩ := h
    refine ex_iastN dX12_keeps_33 (ly_a460 hL) hv (fun I2 eI2 => ?_)
    have h := h I2 eI2
    refine ex_step (pc' := 37) (ls' := [some (.ref 420), some (.int (x1 + 1))]) dX12_keeps_34 rfl ?_
    refine ex_step (pc' := 11) dX12_keeps_37 rfl ?_
    exact h
set_option maxHeartbeats 4000000 in
theorem BX12_keeps_52 {d : Nat} {Z : zZ} {I : zI} {J : zJ} {o : zO} {t u : Nat} (x1 : Int32) (hL : zLY Z t u)  (h : ((1290 ≤ x1 → (∀ I1 : zI, I1 = zu I 420 58 ((I 420 58) + 1) → (∃ (I2 : zI), zE d kX12_keepsRow 0 [some (.ref 420), none] [] Z I1 J (none, Z, I2, J) ∧ o = (none, Z, I2, J)))) ∧ (¬ 1290 ≤ x1 → (vp_in x1 1290 ∧ (vp_in (((1290 : Int32) * (I 420 58)) + x1) 38700 ∧ (∀ I3 : zI, I3 = zu I 460 (((1290 : Int32) * (I 420 58)) + x1).toNatClampNeg (I 457 x1.toNatClampNeg) → zE (d + 1) kX12_keeps 52 [some (.ref 420), some (.int (x1 + 1))] [] Z I3 J o)))))) : zE (d + 1) kX12_keeps 52 [some (.ref 420), some (.int x1)] [] Z I J o := by
  refine ex_step (pc' := 53) dX12_keeps_52 rfl ?_
  refine ex_step (pc' := 56) (st' := [.int 1290, .int x1]) dX12_keeps_53 rfl ?_
  refine ex_icmp (pc' := 86) dX12_keeps_56 (by decide) (fun c => ?_) (fun c => ?_)
  · have h := h.1 c
    refine ex_step (pc' := 87) dX12_keeps_86 rfl ?_
    refine ex_step (pc' := 88) dX12_keeps_87 rfl ?_
    refine ex_geti dX12_keeps_88 wf_RX12_283 (ly_a420 hL) rfl ?_
    refine ex_step (pc' := 92) (st' := [.int 1, .int (I 420 58), .ref 420]) dX12_keeps_91 rfl ?_
    refine ex_step (pc' := 93) dX12_keeps_92 rfl ?_
    refine ex_putiN dX12_keeps_93 (wp_RX12_283 _) (ly_a420 hL) rfl ⟨rfl, rfl⟩ (fun I1 eI1 => ?_)
    have h := h I1 eI1
    refine ex_step (pc' := 97) dX12_keeps_96 rfl ?_
    obtain ⟨I2, hc, h⟩ := h
    refine ex_callV (as := []) (st := []) (ci := 12) dX12_keeps_97 zmX12_keepsRow zl_RX12_188 ziX12_keepsRow zvX12_keepsRow (by decide) (ly_a420 hL) rfl (Nat.le_of_ble_eq_true rfl) (Nat.le_of_ble_eq_true rfl) hc ?_
    rw [h]; exact ex_ret (v := none) ⟨dX12_keeps_100, rfl⟩
  · have h := h.2 c
    refine ex_step (pc' := 60) dX12_keeps_59 rfl ?_
    refine ex_getr dX12_keeps_60 wf_RX12_138 (ly_a420 hL) rfl (ly_r420_59 hL) ?_
    refine ex_step (pc' := 66) (st' := [.int 1290, .ref 460]) dX12_keeps_63 rfl ?_
    refine ex_step (pc' := 67) dX12_keeps_66 rfl ?_
    refine ex_geti dX12_keeps_67 wf_RX12_283 (ly_a420 hL) rfl ?_
    refine ex_step (pc' := 71) dX12_keeps_70 rfl ?_
    refine ex_step (pc' := 72) dX12_keeps_71 rfl ?_
    refine ex_step (pc' := 73) dX12_keeps_72 rfl ?_
    refine ex_step (pc' := 74) dX12_keeps_73 rfl ?_
    refine ex_getr dX12_keeps_74 wf_RX12_128 (ly_a420 hL) rfl (ly_r420_55 hL) ?_
    refine ex_step (pc' := 78) dX12_keeps_77 rfl ?_
    obtain ⟨hv, h⟩ := h
    refine ex_iald dX12_keeps_78 (Or.inl (ly_a457 hL)) hv ?_
    obtain ⟨hv, h⟩ := h
    refine ex_iastN dX12_keeps_79 (ly_a460 hL) hv (fun I3 eI3 => ?_)
    have h := h I3 eI3
    refine ex_step (pc' := 83) (ls' := [some (.ref 420), some (.int (x1 + 1))]) dX12_keeps_80 rfl ?_
    refine ex_step (pc' := 52) dX12_keeps_83 rfl ?_
    exact h
set_option maxHeartbeats 4000000 in
theorem BX12_step_0 {d : Nat} {Z : zZ} {I : zI} {J : zJ} {o : zO} {t u : Nat} (x1 : Int32) (x2 : Int32) (hL : zLY Z t u)  (h : (∃ (v1 : Int32), zE (d + 4) kX12_isMan 0 [some (.ref 420), some (.int x1)] [] Z I J (some (.int v1), Z, I, J) ∧ ((v1 = 0 → o = (some (.int 0), Z, I, J)) ∧ (¬ v1 = 0 → ((¬ (zbi (1 ≤ x2 ∧ x2 ≤ 4)) = 0 → (∃ (I2 : zI), zE (d + 4) kX12_copies 0 [some (.ref 420), none] [] Z I J (none, Z, I2, J) ∧ (∃ (v3 : Int32) (I4 : zI), zE (d + 4) kX12_steps 0 [some (.ref 420), some (.int x1), some (.int x2), none, none, none] [] Z I2 J (some (.int v3), Z, I4, J) ∧ ((¬ v3 = 0 → (∃ (I5 : zI), zE (d + 4) kX12_keeps 0 [some (.ref 420), none] [] Z I4 J (none, Z, I5, J) ∧ o = (some (.int 1), Z, I5, J))) ∧ (v3 = 0 → o = (some (.int 0), Z, I4, J)))))) ∧ ((zbi (1 ≤ x2 ∧ x2 ≤ 4)) = 0 → o = (some (.int 0), Z, I, J))))))) : zE (d + 5) kX12_step 0 [some (.ref 420), some (.int x1), some (.int x2)] [] Z I J o := by
  refine ex_step (pc' := 1) dX12_step_0 rfl ?_
  refine ex_step (pc' := 2) dX12_step_1 rfl ?_
  obtain ⟨v1, hc, h⟩ := h
  refine ex_callV (as := [.int x1]) (st := []) (ci := 12) dX12_step_2 zmX12_isMan zl_RX12_394 ziX12_isMan zvX12_isMan (by decide) (ly_a420 hL) rfl (Nat.le_of_ble_eq_true rfl) (Nat.le_of_ble_eq_true rfl) hc ?_
  refine ex_if (pc' := 17) dX12_step_5 (by decide) (fun c => ?_) (fun c => ?_)
  · have h := h.1 c
    refine ex_step (pc' := 18) (st' := [.int 0]) dX12_step_17 rfl ?_
    rw [h]; exact ex_ret (v := some (.int 0)) ⟨dX12_step_18, _, rfl, rfl⟩
  · have h := h.2 c
    refine ex_step (pc' := 9) dX12_step_8 rfl ?_
    refine ex_step (pc' := 10) (st' := [.int 1, .int x2]) dX12_step_9 rfl ?_
    refine ex_step (pc' := 11) (st' := [.int 4, .int 1, .int x2]) dX12_step_10 rfl ?_
    refine ex_callS (as := [.int x2, .int 1, .int 4]) (st := []) dX12_step_11 zmX12_in zl_RX12_345 zsX12_in rfl (Nat.le_of_ble_eq_true rfl) (Nat.le_of_ble_eq_true rfl) M_in ?_
    refine ex_if (pc' := 19) dX12_step_14 (by decide) (fun c => ?_) (fun c => ?_)
    · have h := h.1 c
      refine ex_step (pc' := 20) dX12_step_19 rfl ?_
      obtain ⟨I2, hc, h⟩ := h
      refine ex_callV (as := []) (st := []) (ci := 12) dX12_step_20 zmX12_copies zl_RX12_397 ziX12_copies zvX12_copies (by decide) (ly_a420 hL) rfl (Nat.le_of_ble_eq_true rfl) (Nat.le_of_ble_eq_true rfl) hc ?_
      refine ex_step (pc' := 24) dX12_step_23 rfl ?_
      refine ex_step (pc' := 25) dX12_step_24 rfl ?_
      refine ex_step (pc' := 26) dX12_step_25 rfl ?_
      obtain ⟨v3, I4, hc, h⟩ := h
      refine ex_callV (as := [.int x1, .int x2]) (st := []) (ci := 12) dX12_step_26 zmX12_steps zl_RX12_388 ziX12_steps zvX12_steps (by decide) (ly_a420 hL) rfl (Nat.le_of_ble_eq_true rfl) (Nat.le_of_ble_eq_true rfl) hc ?_
      refine ex_if (pc' := 34) dX12_step_29 (by decide) (fun c => ?_) (fun c => ?_)
      · have h := h.1 c
        refine ex_step (pc' := 35) dX12_step_34 rfl ?_
        obtain ⟨I5, hc, h⟩ := h
        refine ex_callV (as := []) (st := []) (ci := 12) dX12_step_35 zmX12_keeps zl_RX12_404 ziX12_keeps zvX12_keeps (by decide) (ly_a420 hL) rfl (Nat.le_of_ble_eq_true rfl) (Nat.le_of_ble_eq_true rfl) hc ?_
        refine ex_step (pc' := 39) (st' := [.int 1]) dX12_step_38 rfl ?_
        rw [h]; exact ex_ret (v := some (.int 1)) ⟨dX12_step_39, _, rfl, rfl⟩
      · have h := h.2 (Classical.not_not.mp c)
        refine ex_step (pc' := 33) (st' := [.int 0]) dX12_step_32 rfl ?_
        rw [h]; exact ex_ret (v := some (.int 0)) ⟨dX12_step_33, _, rfl, rfl⟩
    · have h := h.2 (Classical.not_not.mp c)
      refine ex_step (pc' := 18) (st' := [.int 0]) dX12_step_17 rfl ?_
      rw [h]; exact ex_ret (v := some (.int 0)) ⟨dX12_step_18, _, rfl, rfl⟩
set_option maxHeartbeats 4000000 in
theorem BX12_wind_0 {d : Nat} {Z : zZ} {I : zI} {J : zJ} {o : zO} {t u : Nat} (x1 : Int32) (hL : zLY Z t u)  (h : (∃ (v1 : Int32), zE (d + 1) kX12_isMan 0 [some (.ref 420), some (.int x1)] [] Z I J (some (.int v1), Z, I, J) ∧ ((¬ v1 = 0 → (∃ (I2 : zI), zE (d + 1) kX12_copies 0 [some (.ref 420), none] [] Z I J (none, Z, I2, J) ∧ (∃ (v3 : Int32) (I4 : zI), zE (d + 1) kX12_winds 0 [some (.ref 420), some (.int x1), none] [] Z I2 J (some (.int v3), Z, I4, J) ∧ ((¬ v3 = 0 → (∃ (I5 : zI), zE (d + 1) kX12_keeps 0 [some (.ref 420), none] [] Z I4 J (none, Z, I5, J) ∧ o = (some (.int 1), Z, I5, J))) ∧ (v3 = 0 → o = (some (.int 0), Z, I4, J)))))) ∧ (v1 = 0 → o = (some (.int 0), Z, I, J))))) : zE (d + 2) kX12_wind 0 [some (.ref 420), some (.int x1)] [] Z I J o := by
  refine ex_step (pc' := 1) dX12_wind_0 rfl ?_
  refine ex_step (pc' := 2) dX12_wind_1 rfl ?_
  obtain ⟨v1, hc, h⟩ := h
  refine ex_callV (as := [.int x1]) (st := []) (ci := 12) dX12_wind_2 zmX12_isMan zl_RX12_394 ziX12_isMan zvX12_isMan (by decide) (ly_a420 hL) rfl (Nat.le_of_ble_eq_true rfl) (Nat.le_of_ble_eq_true rfl) hc ?_
  refine ex_if (pc' := 10) dX12_wind_5 (by decide) (fun c => ?_) (fun c => ?_)
  · have h := h.1 c
    refine ex_step (pc' := 11) dX12_wind_10 rfl ?_
    obtain ⟨I2, hc, h⟩ := h
    refine ex_callV (as := []) (st := []) (ci := 12) dX12_wind_11 zmX12_copies zl_RX12_397 ziX12_copies zvX12_copies (by decide) (ly_a420 hL) rfl (Nat.le_of_ble_eq_true rfl) (Nat.le_of_ble_eq_true rfl) hc ?_
    refine ex_step (pc' := 15) dX12_wind_14 rfl ?_
    refine ex_step (pc' := 16) dX12_wind_15 rfl ?_
    obtain ⟨v3, I4, hc, h⟩ := h
    refine ex_callV (as := [.int x1]) (st := []) (ci := 12) dX12_wind_16 zmX12_winds zl_RX12_391 ziX12_winds zvX12_winds (by decide) (ly_a420 hL) rfl (Nat.le_of_ble_eq_true rfl) (Nat.le_of_ble_eq_true rfl) hc ?_
    refine ex_if (pc' := 24) dX12_wind_19 (by decide) (fun c => ?_) (fun c => ?_)
    · have h := h.1 c
      refine ex_step (pc' := 25) dX12_wind_24 rfl ?_
      obtain ⟨I5, hc, h⟩ := h
      refine ex_callV (as := []) (st := []) (ci := 12) dX12_wind_25 zmX12_keeps zl_RX12_404 ziX12_keeps zvX12_keeps (by decide) (ly_a420 hL) rfl (Nat.le_of_ble_eq_true rfl) (Nat.le_of_ble_eq_true rfl) hc ?_
      refine ex_step (pc' := 29) (st' := [.int 1]) dX12_wind_28 rfl ?_
      rw [h]; exact ex_ret (v := some (.int 1)) ⟨dX12_wind_29, _, rfl, rfl⟩
    · have h := h.2 (Classical.not_not.mp c)
      refine ex_step (pc' := 23) (st' := [.int 0]) dX12_wind_22 rfl ?_
      rw [h]; exact ex_ret (v := some (.int 0)) ⟨dX12_wind_23, _, rfl, rfl⟩
  · have h := h.2 (Classical.not_not.mp c)
    refine ex_step (pc' := 9) (st' := [.int 0]) dX12_wind_8 rfl ?_
    rw [h]; exact ex_ret (v := some (.int 0)) ⟨dX12_wind_9, _, rfl, rfl⟩
set_option maxHeartbeats 4000000 in
theorem BX12_home_0 {d : Nat} {Z : zZ} {I : zI} {J : zJ} {o : zO} {t u : Nat} (x1 : Int32) (hL : zLY Z t u)  (h : (∃ (v1 : Int32), zE (d + 1) kX12_isMan 0 [some (.ref 420), some (.int x1)] [] Z I J (some (.int v1), Z, I, J) ∧ ((¬ v1 = 0 → (∃ (I2 : zI), zE (d + 1) kX12_copies 0 [some (.ref 420), none] [] Z I J (none, Z, I2, J) ∧ zE (d + 2) kX12_home 16 [some (.ref 420), some (.int x1), some (.int 0)] [] Z I2 J o)) ∧ (v1 = 0 → o = (some (.int (-1)), Z, I, J))))) : zE (d + 2) kX12_home 0 [some (.ref 420), some (.int x1), none] [] Z I J o := by
  refine ex_step (pc' := 1) dX12_home_0 rfl ?_
  refine ex_step (pc' := 2) dX12_home_1 rfl ?_
  obtain ⟨v1, hc, h⟩ := h
  refine ex_callV (as := [.int x1]) (st := []) (ci := 12) dX12_home_2 zmX12_isMan zl_RX12_394 ziX12_isMan zvX12_isMan (by decide) (ly_a420 hL) rfl (Nat.le_of_ble_eq_true rfl) (Nat.le_of_ble_eq_true rfl) hc ?_
  refine ex_if (pc' := 10) dX12_home_5 (by decide) (fun c => ?_) (fun c => ?_)
  · have h := h.1 c
    refine ex_step (pc' := 11) dX12_home_10 rfl ?_
    obtain ⟨I2, hc, h⟩ := h
    refine ex_callV (as := []) (st := []) (ci := 12) dX12_home_11 zmX12_copies zl_RX12_397 ziX12_copies zvX12_copies (by decide) (ly_a420 hL) rfl (Nat.le_of_ble_eq_true rfl) (Nat.le_of_ble_eq_true rfl) hc ?_
    refine ex_step (pc' := 15) (st' := [.int 0]) dX12_home_14 rfl ?_
    refine ex_step (pc' := 16) (ls' := [some (.ref 420), some (.int x1), some (.int 0)]) dX12_home_15 rfl ?_
    exact h
  · have h := h.2 (Classical.not_not.mp c)
    refine ex_step (pc' := 9) (st' := [.int (-1)]) dX12_home_8 rfl ?_
    rw [h]; exact ex_ret (v := some (.int (-1))) ⟨dX12_home_9, _, rfl, rfl⟩
set_option maxHeartbeats 4000000 in
theorem BX12_home_16 {d : Nat} {Z : zZ} {I : zI} {J : zJ} {o : zO} {t u : Nat} (x1 : Int32) (x2 : Int32) (hL : zLY Z t u)  (h : (∃ (v1 : Int32) (I2 : zI), zE (d + 1) kX12_winds 0 [some (.ref 420), some (.int x1), none] [] Z I J (some (.int v1), Z, I2, J) ∧ ((v1 = 0 → ((¬ x2 = 0 → (∃ (I3 : zI), zE (d + 1) kX12_keeps 0 [some (.ref 420), none] [] Z I2 J (none, Z, I3, J) ∧ o = (some (.int x2), Z, I3, J))) ∧ (x2 = 0 → o = (some (.int (-1)), Z, I2, J)))) ∧ (¬ v1 = 0 → zE (d + 2) kX12_home 16 [some (.ref 420), some (.int x1), some (.int (x2 + 1))] [] Z I2 J o)))) : zE (d + 2) kX12_home 16 [some (.ref 420), some (.int x1), some (.int x2)] [] Z I J o := by
  refine ex_step (pc' := 17) dX12_home_16 rfl ?_
  refine ex_step (pc' := 18) dX12_home_17 rfl ?_
  obtain ⟨v1, I2, hc, h⟩ := h
  refine ex_callV (as := [.int x1]) (st := []) (ci := 12) dX12_home_18 zmX12_winds zl_RX12_391 ziX12_winds zvX12_winds (by decide) (ly_a420 hL) rfl (Nat.le_of_ble_eq_true rfl) (Nat.le_of_ble_eq_true rfl) hc ?_
  refine ex_if (pc' := 30) dX12_home_21 (by decide) (fun c => ?_) (fun c => ?_)
  · have h := h.1 c
    refine ex_step (pc' := 31) dX12_home_30 rfl ?_
    refine ex_if (pc' := 36) dX12_home_31 (by decide) (fun c => ?_) (fun c => ?_)
    · have h := h.1 c
      refine ex_step (pc' := 37) dX12_home_36 rfl ?_
      obtain ⟨I3, hc, h⟩ := h
      refine ex_callV (as := []) (st := []) (ci := 12) dX12_home_37 zmX12_keeps zl_RX12_404 ziX12_keeps zvX12_keeps (by decide) (ly_a420 hL) rfl (Nat.le_of_ble_eq_true rfl) (Nat.le_of_ble_eq_true rfl) hc ?_
      refine ex_step (pc' := 41) dX12_home_40 rfl ?_
      rw [h]; exact ex_ret (v := some (.int x2)) ⟨dX12_home_41, _, rfl, rfl⟩
    · have h := h.2 (Classical.not_not.mp c)
      refine ex_step (pc' := 35) (st' := [.int (-1)]) dX12_home_34 rfl ?_
      rw [h]; exact ex_ret (v := some (.int (-1))) ⟨dX12_home_35, _, rfl, rfl⟩
  · have h := h.2 c
    refine ex_step (pc' := 27) (ls' := [some (.ref 420), some (.int x1), some (.int (x2 + 1))]) dX12_home_24 rfl ?_
    refine ex_step (pc' := 16) dX12_home_27 rfl ?_
    exact h
set_option maxHeartbeats 4000000 in
theorem BX12_cut_0 {d : Nat} {Z : zZ} {I : zI} {J : zJ} {o : zO} {t u : Nat} (x1 : Int32) (hL : zLY Z t u)  (h : (∃ (v1 : Int32), zE (d + 1) kX12_isMan 0 [some (.ref 420), some (.int x1)] [] Z I J (some (.int v1), Z, I, J) ∧ ((v1 = 0 → o = (some (.int (-1)), Z, I, J)) ∧ (¬ v1 = 0 → (vp_in ((21 : Int32) + x1) 1290 ∧ ((¬ (I 457 ((21 : Int32) + x1).toNatClampNeg) = 1 → (∃ (I2 : zI), zE (d + 1) kX12_copies 0 [some (.ref 420), none] [] Z I J (none, Z, I2, J) ∧ (vp_in ((14 : Int32) + x1) 1290 ∧ (∀ y3 : Int32, y3 = (I2 458 ((14 : Int32) + x1).toNatClampNeg) → (vp_in ((14 : Int32) + x1) 1290 ∧ (∀ I4 : zI, I4 = zu I2 458 ((14 : Int32) + x1).toNatClampNeg 0 → (vp_in ((21 : Int32) + x1) 1290 ∧ (∀ I5 : zI, I5 = zu I4 458 ((21 : Int32) + x1).toNatClampNeg 1 → (∃ (I6 : zI), zE (d + 1) kX12_keeps 0 [some (.ref 420), none] [] Z I5 J (none, Z, I6, J) ∧ o = (some (.int y3), Z, I6, J)))))))))) ∧ ((I 457 ((21 : Int32) + x1).toNatClampNeg) = 1 → o = (some (.int (-1)), Z, I, J)))))))) : zE (d + 2) kX12_cut 0 [some (.ref 420), some (.int x1), none] [] Z I J o := by
  refine ex_step (pc' := 1) dX12_cut_0 rfl ?_
  refine ex_step (pc' := 2) dX12_cut_1 rfl ?_
  obtain ⟨v1, hc, h⟩ := h
  refine ex_callV (as := [.int x1]) (st := []) (ci := 12) dX12_cut_2 zmX12_isMan zl_RX12_394 ziX12_isMan zvX12_isMan (by decide) (ly_a420 hL) rfl (Nat.le_of_ble_eq_true rfl) (Nat.le_of_ble_eq_true rfl) hc ?_
  refine ex_if (pc' := 21) dX12_cut_5 (by decide) (fun c => ?_) (fun c => ?_)
  · have h := h.1 c
    refine ex_step (pc' := 22) (st' := [.int (-1)]) dX12_cut_21 rfl ?_
    rw [h]; exact ex_ret (v := some (.int (-1))) ⟨dX12_cut_22, _, rfl, rfl⟩
  · have h := h.2 c
    refine ex_step (pc' := 9) dX12_cut_8 rfl ?_
    refine ex_getr dX12_cut_9 wf_RX12_128 (ly_a420 hL) rfl (ly_r420_55 hL) ?_
    refine ex_step (pc' := 14) (st' := [.int 21, .ref 457]) dX12_cut_12 rfl ?_
    refine ex_step (pc' := 15) dX12_cut_14 rfl ?_
    refine ex_step (pc' := 16) dX12_cut_15 rfl ?_
    obtain ⟨hv, h⟩ := h
    refine ex_iald dX12_cut_16 (Or.inl (ly_a457 hL)) hv ?_
    refine ex_step (pc' := 18) (st' := [.int 1, .int (I 457 ((21 : Int32) + x1).toNatClampNeg)]) dX12_cut_17 rfl ?_
    refine ex_icmp (pc' := 23) dX12_cut_18 (by decide) (fun c => ?_) (fun c => ?_)
    · have h := h.1 c
      refine ex_step (pc' := 24) dX12_cut_23 rfl ?_
      obtain ⟨I2, hc, h⟩ := h
      refine ex_callV (as := []) (st := []) (ci := 12) dX12_cut_24 zmX12_copies zl_RX12_397 ziX12_copies zvX12_copies (by decide) (ly_a420 hL) rfl (Nat.le_of_ble_eq_true rfl) (Nat.le_of_ble_eq_true rfl) hc ?_
      refine ex_step (pc' := 28) dX12_cut_27 rfl ?_
      refine ex_getr dX12_cut_28 wf_RX12_131 (ly_a420 hL) rfl (ly_r420_56 hL) ?_
      refine ex_step (pc' := 33) (st' := [.int 14, .ref 458]) dX12_cut_31 rfl ?_
      refine ex_step (pc' := 34) dX12_cut_33 rfl ?_
      refine ex_step (pc' := 35) dX12_cut_34 rfl ?_
      obtain ⟨hv, h⟩ := h
      refine ex_iald dX12_cut_35 (Or.inl (ly_a458 hL)) hv ?_
      refine ex_topi (fun y3 ey3 => ?_)
      have h := h y3 ey3
      refine ex_step (pc' := 37) (ls' := [some (.ref 420), some (.int x1), some (.int y3)]) dX12_cut_36 rfl ?_
      refine ex_step (pc' := 38) dX12_cut_37 rfl ?_
      refine ex_getr dX12_cut_38 wf_RX12_131 (ly_a420 hL) rfl (ly_r420_56 hL) ?_
      refine ex_step (pc' := 43) (st' := [.int 14, .ref 458]) dX12_cut_41 rfl ?_
      refine ex_step (pc' := 44) dX12_cut_43 rfl ?_
      refine ex_step (pc' := 45) dX12_cut_44 rfl ?_
      refine ex_step (pc' := 46) (st' := [.int 0, .int ((14 : Int32) + x1), .ref 458]) dX12_cut_45 rfl ?_
      obtain ⟨hv, h⟩ := h
      refine ex_iastN dX12_cut_46 (ly_a458 hL) hv (fun I4 eI4 => ?_)
      have h := h I4 eI4
      refine ex_step (pc' := 48) dX12_cut_47 rfl ?_
      refine ex_getr dX12_cut_48 wf_RX12_131 (ly_a420 hL) rfl (ly_r420_56 hL) ?_
      refine ex_step (pc' := 53) (st' := [.int 21, .ref 458]) dX12_cut_51 rfl ?_
      refine ex_step (pc' := 54) dX12_cut_53 rfl ?_
      refine ex_step (pc' := 55) dX12_cut_54 rfl ?_
      refine ex_step (pc' := 56) (st' := [.int 1, .int ((21 : Int32) + x1), .ref 458]) dX12_cut_55 rfl ?_
      obtain ⟨hv, h⟩ := h
      refine ex_iastN dX12_cut_56 (ly_a458 hL) hv (fun I5 eI5 => ?_)
      have h := h I5 eI5
      refine ex_step (pc' := 58) dX12_cut_57 rfl ?_
      obtain ⟨I6, hc, h⟩ := h
      refine ex_callV (as := []) (st := []) (ci := 12) dX12_cut_58 zmX12_keeps zl_RX12_404 ziX12_keeps zvX12_keeps (by decide) (ly_a420 hL) rfl (Nat.le_of_ble_eq_true rfl) (Nat.le_of_ble_eq_true rfl) hc ?_
      refine ex_step (pc' := 62) dX12_cut_61 rfl ?_
      rw [h]; exact ex_ret (v := some (.int y3)) ⟨dX12_cut_62, _, rfl, rfl⟩
    · have h := h.2 (Classical.not_not.mp c)
      refine ex_step (pc' := 22) (st' := [.int (-1)]) dX12_cut_21 rfl ?_
      rw [h]; exact ex_ret (v := some (.int (-1))) ⟨dX12_cut_22, _, rfl, rfl⟩
set_option maxHeartbeats 4000000 in
theorem BX12_run_0 {d : Nat} {Z : zZ} {I : zI} {J : zJ} {o : zO} {t u : Nat} (x1 : Int32) (hL : zLY Z t u)  (h : ((¬ (zbi (0 ≤ x1 ∧ x1 ≤ 200)) = 0 → ((¬ x1 = 0 → (∃ (I1 : zI), zE (d + 5) kX12_copies 0 [some (.ref 420), none] [] Z I J (none, Z, I1, J) ∧ zE (d + 6) kX12_run 31 [some (.ref 420), some (.int x1), some (.int 0)] [] Z I1 J o)) ∧ (x1 = 0 → o = (some (.int (I 457 28)), Z, I, J)))) ∧ ((zbi (0 ≤ x1 ∧ x1 ≤ 200)) = 0 → o = (some (.int (-1)), Z, I, J)))) : zE (d + 6) kX12_run 0 [some (.ref 420), some (.int x1), none] [] Z I J o := by
  refine ex_step (pc' := 1) dX12_run_0 rfl ?_
  refine ex_step (pc' := 2) (st' := [.int 0, .int x1]) dX12_run_1 rfl ?_
  refine ex_step (pc' := 5) (st' := [.int 200, .int 0, .int x1]) dX12_run_2 rfl ?_
  refine ex_callS (as := [.int x1, .int 0, .int 200]) (st := []) dX12_run_5 zmX12_in zl_RX12_345 zsX12_in rfl (Nat.le_of_ble_eq_true rfl) (Nat.le_of_ble_eq_true rfl) M_in ?_
  refine ex_if (pc' := 13) dX12_run_8 (by decide) (fun c => ?_) (fun c => ?_)
  · have h := h.1 c
    refine ex_step (pc' := 14) dX12_run_13 rfl ?_
    refine ex_if (pc' := 25) dX12_run_14 (by decide) (fun c => ?_) (fun c => ?_)
    · have h := h.1 c
      refine ex_step (pc' := 26) dX12_run_25 rfl ?_
      obtain ⟨I1, hc, h⟩ := h
      refine ex_callV (as := []) (st := []) (ci := 12) dX12_run_26 zmX12_copies zl_RX12_397 ziX12_copies zvX12_copies (by decide) (ly_a420 hL) rfl (Nat.le_of_ble_eq_true rfl) (Nat.le_of_ble_eq_true rfl) hc ?_
      refine ex_step (pc' := 30) (st' := [.int 0]) dX12_run_29 rfl ?_
      refine ex_step (pc' := 31) (ls' := [some (.ref 420), some (.int x1), some (.int 0)]) dX12_run_30 rfl ?_
      exact h
    · have h := h.2 (Classical.not_not.mp c)
      refine ex_step (pc' := 18) dX12_run_17 rfl ?_
      refine ex_getr dX12_run_18 wf_RX12_128 (ly_a420 hL) rfl (ly_r420_55 hL) ?_
      refine ex_step (pc' := 23) (st' := [.int 28, .ref 457]) dX12_run_21 rfl ?_
      have hv : vp_in 28 1290 := by unfold vp_in; decide
      refine ex_iald dX12_run_23 (Or.inl (ly_a457 hL)) hv ?_
      rw [h]; exact ex_ret (v := some (.int (I 457 28))) ⟨dX12_run_24, _, rfl, rfl⟩
  · have h := h.2 (Classical.not_not.mp c)
    refine ex_step (pc' := 12) (st' := [.int (-1)]) dX12_run_11 rfl ?_
    rw [h]; exact ex_ret (v := some (.int (-1))) ⟨dX12_run_12, _, rfl, rfl⟩
set_option maxHeartbeats 4000000 in
theorem BX12_run_31 {d : Nat} {Z : zZ} {I : zI} {J : zJ} {o : zO} {t u : Nat} (x1 : Int32) (x2 : Int32) (hL : zLY Z t u)  (h : ((x1 ≤ x2 → (∃ (I1 : zI), zE (d + 5) kX12_keeps 0 [some (.ref 420), none] [] Z I J (none, Z, I1, J) ∧ o = (some (.int (I1 457 28)), Z, I1, J))) ∧ (¬ x1 ≤ x2 → (∃ (I2 : zI), zE (d + 5) kX12_minuteGoes 0 [some (.ref 420), none, none] [] Z I J (none, Z, I2, J) ∧ zE (d + 6) kX12_run 31 [some (.ref 420), some (.int x1), some (.int (x2 + 1))] [] Z I2 J o)))) : zE (d + 6) kX12_run 31 [some (.ref 420), some (.int x1), some (.int x2)] [] Z I J o := by
  refine ex_step (pc' := 32) dX12_run_31 rfl ?_
  refine ex_step (pc' := 33) dX12_run_32 rfl ?_
  refine ex_icmp (pc' := 46) dX12_run_33 (by decide) (fun c => ?_) (fun c => ?_)
  · have h := h.1 c
    refine ex_step (pc' := 47) dX12_run_46 rfl ?_
    obtain ⟨I1, hc, h⟩ := h
    refine ex_callV (as := []) (st := []) (ci := 12) dX12_run_47 zmX12_keeps zl_RX12_404 ziX12_keeps zvX12_keeps (by decide) (ly_a420 hL) rfl (Nat.le_of_ble_eq_true rfl) (Nat.le_of_ble_eq_true rfl) hc ?_
    refine ex_step (pc' := 51) dX12_run_50 rfl ?_
    refine ex_getr dX12_run_51 wf_RX12_128 (ly_a420 hL) rfl (ly_r420_55 hL) ?_
    refine ex_step (pc' := 56) (st' := [.int 28, .ref 457]) dX12_run_54 rfl ?_
    have hv : vp_in 28 1290 := by unfold vp_in; decide
    refine ex_iald dX12_run_56 (Or.inl (ly_a457 hL)) hv ?_
    rw [h]; exact ex_ret (v := some (.int (I1 457 28))) ⟨dX12_run_57, _, rfl, rfl⟩
  · have h := h.2 c
    refine ex_step (pc' := 37) dX12_run_36 rfl ?_
    obtain ⟨I2, hc, h⟩ := h
    refine ex_callV (as := []) (st := []) (ci := 12) dX12_run_37 zmX12_minuteGoes zl_RX12_407 ziX12_minuteGoes zvX12_minuteGoes (by decide) (ly_a420 hL) rfl (Nat.le_of_ble_eq_true rfl) (Nat.le_of_ble_eq_true rfl) hc ?_
    refine ex_step (pc' := 43) (ls' := [some (.ref 420), some (.int x1), some (.int (x2 + 1))]) dX12_run_40 rfl ?_
    refine ex_step (pc' := 31) dX12_run_43 rfl ?_
    exact h
set_option maxHeartbeats 4000000 in
theorem BX12_undo_0 {d : Nat} {Z : zZ} {I : zI} {J : zJ} {o : zO} {t u : Nat}  (hL : zLY Z t u)  (h : ((¬ (I 420 58) = 0 → (∀ I1 : zI, I1 = zu I 420 58 ((I 420 58) - 1) → zE d kX12_undo 21 [some (.ref 420), some (.int 0)] [] Z I1 J o)) ∧ ((I 420 58) = 0 → o = (some (.int 0), Z, I, J)))) : zE d kX12_undo 0 [some (.ref 420), none] [] Z I J o := by
  refine ex_step (pc' := 1) dX12_undo_0 rfl ?_
  refine ex_geti dX12_undo_1 wf_RX12_283 (ly_a420 hL) rfl ?_
  refine ex_if (pc' := 9) dX12_undo_4 (by decide) (fun c => ?_) (fun c => ?_)
  · have h := h.1 c
    refine ex_step (pc' := 10) dX12_undo_9 rfl ?_
    refine ex_step (pc' := 11) dX12_undo_10 rfl ?_
    refine ex_geti dX12_undo_11 wf_RX12_283 (ly_a420 hL) rfl ?_
    refine ex_step (pc' := 15) (st' := [.int 1, .int (I 420 58), .ref 420]) dX12_undo_14 rfl ?_
    refine ex_step (pc' := 16) dX12_undo_15 rfl ?_
    refine ex_putiN dX12_undo_16 (wp_RX12_283 _) (ly_a420 hL) rfl ⟨rfl, rfl⟩ (fun I1 eI1 => ?_)
    have h := h I1 eI1
    refine ex_step (pc' := 20) (st' := [.int 0]) dX12_undo_19 rfl ?_
    refine ex_step (pc' := 21) (ls' := [some (.ref 420), some (.int 0)]) dX12_undo_20 rfl ?_
    exact h
  · have h := h.2 (Classical.not_not.mp c)
    refine ex_step (pc' := 8) (st' := [.int 0]) dX12_undo_7 rfl ?_
    rw [h]; exact ex_ret (v := some (.int 0)) ⟨dX12_undo_8, _, rfl, rfl⟩
set_option maxHeartbeats 4000000 in
theorem BX12_undo_21 {d : Nat} {Z : zZ} {I : zI} {J : zJ} {o : zO} {t u : Nat} (x1 : Int32) (hL : zLY Z t u)  (h : ((1290 ≤ x1 → o = (some (.int 1), Z, I, J)) ∧ (¬ 1290 ≤ x1 → (vp_in (((1290 : Int32) * (I 420 58)) + x1) 38700 ∧ (vp_in x1 1290 ∧ (∀ I1 : zI, I1 = zu I 457 x1.toNatClampNeg (I 460 (((1290 : Int32) * (I 420 58)) + x1).toNatClampNeg) → zE d kX12_undo 21 [some (.ref 420), some (.int (x1 + 1))] [] Z I1 J o)))))) : zE d kX12_undo 21 [some (.ref 420), some (.int x1)] [] Z I J o := by
  refine ex_step (pc' := 22) dX12_undo_21 rfl ?_
  refine ex_step (pc' := 25) (st' := [.int 1290, .int x1]) dX12_undo_22 rfl ?_
  refine ex_icmp (pc' := 55) dX12_undo_25 (by decide) (fun c => ?_) (fun c => ?_)
  · have h := h.1 c
    refine ex_step (pc' := 56) (st' := [.int 1]) dX12_undo_55 rfl ?_
    rw [h]; exact ex_ret (v := some (.int 1)) ⟨dX12_undo_56, _, rfl, rfl⟩
  · have h := h.2 c
    refine ex_step (pc' := 29) dX12_undo_28 rfl ?_
    refine ex_getr dX12_undo_29 wf_RX12_128 (ly_a420 hL) rfl (ly_r420_55 hL) ?_
    refine ex_step (pc' := 33) dX12_undo_32 rfl ?_
    refine ex_step (pc' := 34) dX12_undo_33 rfl ?_
    refine ex_getr dX12_undo_34 wf_RX12_138 (ly_a420 hL) rfl (ly_r420_59 hL) ?_
    refine ex_step (pc' := 40) (st' := [.int 1290, .ref 460, .int x1, .ref 457]) dX12_undo_37 rfl ?_
    refine ex_step (pc' := 41) dX12_undo_40 rfl ?_
    refine ex_geti dX12_undo_41 wf_RX12_283 (ly_a420 hL) rfl ?_
    refine ex_step (pc' := 45) dX12_undo_44 rfl ?_
    refine ex_step (pc' := 46) dX12_undo_45 rfl ?_
    refine ex_step (pc' := 47) dX12_undo_46 rfl ?_
    obtain ⟨hv, h⟩ := h
    refine ex_iald dX12_undo_47 (Or.inl (ly_a460 hL)) hv ?_
    obtain ⟨hv, h⟩ := h
    refine ex_iastN dX12_undo_48 (ly_a457 hL) hv (fun I1 eI1 => ?_)
    have h := h I1 eI1
    refine ex_step (pc' := 52) (ls' := [some (.ref 420), some (.int (x1 + 1))]) dX12_undo_49 rfl ?_
    refine ex_step (pc' := 21) dX12_undo_52 rfl ?_
    exact h
set_option maxHeartbeats 4000000 in
theorem BX12_overOf_0 {d : Nat} {Z : zZ} {I : zI} {J : zJ} {o : zO} {t u : Nat} (x1 : Int32) (x2 : Int32) (hL : zLY Z t u)  (h : zE d kX12_overOf 5 [some (.ref 420), some (.int x1), some (.int x2), some (.int 0), some (.int 0), none, none, none] [] Z I J o) : zE d kX12_overOf 0 [some (.ref 420), some (.int x1), some (.int x2), none, none, none, none, none] [] Z I J o := by
  refine ex_step (pc' := 1) (st' := [.int 0]) dX12_overOf_0 rfl ?_
  refine ex_step (pc' := 2) (ls' := [some (.ref 420), some (.int x1), some (.int x2), some (.int 0), none, none, none, none]) dX12_overOf_1 rfl ?_
  refine ex_step (pc' := 3) (st' := [.int 0]) dX12_overOf_2 rfl ?_
  refine ex_step (pc' := 5) (ls' := [some (.ref 420), some (.int x1), some (.int x2), some (.int 0), some (.int 0), none, none, none]) dX12_overOf_3 rfl ?_
  exact h
set_option maxHeartbeats 4000000 in
theorem BX12_overOf_5 {d : Nat} {Z : zZ} {I : zI} {J : zJ} {o : zO} {t u : Nat} (x1 : Int32) (x2 : Int32) (x3 : Int32) (x4 : Int32) (hL : zLY Z t u)  (h : (vp_in ((14 : Int32) + x1) 1290 ∧ (((I 458 ((14 : Int32) + x1).toNatClampNeg) ≤ x4 → o = (some (.int x3), Z, I, J)) ∧ (¬ (I 458 ((14 : Int32) + x1).toNatClampNeg) ≤ x4 → (∀ y1 : Int32, y1 = (((60 : Int32) * x1) + x4) → zE d kX12_overOf 31 [some (.ref 420), some (.int x1), some (.int x2), some (.int x3), some (.int x4), some (.int y1), some (.int 0), none] [] Z I J o))))) : zE d kX12_overOf 5 [some (.ref 420), some (.int x1), some (.int x2), some (.int x3), some (.int x4), none, none, none] [] Z I J o := by
  refine ex_step (pc' := 7) dX12_overOf_5 rfl ?_
  refine ex_step (pc' := 8) dX12_overOf_7 rfl ?_
  refine ex_getr dX12_overOf_8 wf_RX12_131 (ly_a420 hL) rfl (ly_r420_56 hL) ?_
  refine ex_step (pc' := 13) (st' := [.int 14, .ref 458, .int x4]) dX12_overOf_11 rfl ?_
  refine ex_step (pc' := 14) dX12_overOf_13 rfl ?_
  refine ex_step (pc' := 15) dX12_overOf_14 rfl ?_
  obtain ⟨hv, h⟩ := h
  refine ex_iald dX12_overOf_15 (Or.inl (ly_a458 hL)) hv ?_
  refine ex_icmp (pc' := 119) dX12_overOf_16 (by decide) (fun c => ?_) (fun c => ?_)
  · have h := h.1 c
    refine ex_step (pc' := 120) dX12_overOf_119 rfl ?_
    rw [h]; exact ex_ret (v := some (.int x3)) ⟨dX12_overOf_120, _, rfl, rfl⟩
  · have h := h.2 c
    refine ex_step (pc' := 21) (st' := [.int 60]) dX12_overOf_19 rfl ?_
    refine ex_step (pc' := 22) dX12_overOf_21 rfl ?_
    refine ex_step (pc' := 23) dX12_overOf_22 rfl ?_
    refine ex_step (pc' := 25) dX12_overOf_23 rfl ?_
    refine ex_step (pc' := 26) dX12_overOf_25 rfl ?_
    refine ex_topi (fun y1 ey1 => ?_)
    have h := h y1 ey1
    refine ex_step (pc' := 28) (ls' := [some (.ref 420), some (.int x1), some (.int x2), some (.int x3), some (.int x4), some (.int y1), none, none]) dX12_overOf_26 rfl ?_
    refine ex_step (pc' := 29) (st' := [.int 0]) dX12_overOf_28 rfl ?_
    refine ex_step (pc' := 31) (ls' := [some (.ref 420), some (.int x1), some (.int x2), some (.int x3), some (.int x4), some (.int y1), some (.int 0), none]) dX12_overOf_29 rfl ?_
    exact h
set_option maxHeartbeats 4000000 in
theorem BX12_overOf_31 {d : Nat} {Z : zZ} {I : zI} {J : zJ} {o : zO} {t u : Nat} (x1 : Int32) (x2 : Int32) (x3 : Int32) (x4 : Int32) (x5 : Int32) (x6 : Int32) (hL : zLY Z t u)  (h : (vp_in ((14 : Int32) + x2) 1290 ∧ (((I 458 ((14 : Int32) + x2).toNatClampNeg) ≤ x6 → zE d kX12_overOf 5 [some (.ref 420), some (.int x1), some (.int x2), some (.int x3), some (.int (x4 + 1)), none, none, none] [] Z I J o) ∧ (¬ (I 458 ((14 : Int32) + x2).toNatClampNeg) ≤ x6 → (∀ y1 : Int32, y1 = (((60 : Int32) * x2) + x6) → (vp_in ((870 : Int32) + x5) 1290 ∧ (vp_in ((870 : Int32) + y1) 1290 ∧ ((¬ (I 458 ((870 : Int32) + x5).toNatClampNeg) = (I 458 ((870 : Int32) + y1).toNatClampNeg) → zE d kX12_overOf 31 [some (.ref 420), some (.int x1), some (.int x2), some (.int x3), some (.int x4), some (.int x5), some (.int (x6 + 1)), none] [] Z I J o) ∧ ((I 458 ((870 : Int32) + x5).toNatClampNeg) = (I 458 ((870 : Int32) + y1).toNatClampNeg) → (vp_in ((450 : Int32) + x5) 1290 ∧ (vp_in ((450 : Int32) + y1) 1290 ∧ (((I 458 ((450 : Int32) + x5).toNatClampNeg) ≤ (I 458 ((450 : Int32) + y1).toNatClampNeg) → zE d kX12_overOf 31 [some (.ref 420), some (.int x1), some (.int x2), some (.int x3), some (.int x4), some (.int x5), some (.int (x6 + 1)), none] [] Z I J o) ∧ (¬ (I 458 ((450 : Int32) + x5).toNatClampNeg) ≤ (I 458 ((450 : Int32) + y1).toNatClampNeg) → zE d kX12_overOf 31 [some (.ref 420), some (.int x1), some (.int x2), some (.int (x3 + 1)), some (.int x4), some (.int x5), some (.int (x6 + 1)), none] [] Z I J o))))))))))))) : zE d kX12_overOf 31 [some (.ref 420), some (.int x1), some (.int x2), some (.int x3), some (.int x4), some (.int x5), some (.int x6), none] [] Z I J o := by
  refine ex_step (pc' := 33) dX12_overOf_31 rfl ?_
  refine ex_step (pc' := 34) dX12_overOf_33 rfl ?_
  refine ex_getr dX12_overOf_34 wf_RX12_131 (ly_a420 hL) rfl (ly_r420_56 hL) ?_
  refine ex_step (pc' := 39) (st' := [.int 14, .ref 458, .int x6]) dX12_overOf_37 rfl ?_
  refine ex_step (pc' := 40) dX12_overOf_39 rfl ?_
  refine ex_step (pc' := 41) dX12_overOf_40 rfl ?_
  obtain ⟨hv, h⟩ := h
  refine ex_iald dX12_overOf_41 (Or.inl (ly_a458 hL)) hv ?_
  refine ex_icmp (pc' := 113) dX12_overOf_42 (by decide) (fun c => ?_) (fun c => ?_)
  · have h := h.1 c
    refine ex_step (pc' := 116) (ls' := [some (.ref 420), some (.int x1), some (.int x2), some (.int x3), some (.int (x4 + 1)), some (.int x5), some (.int x6), none]) dX12_overOf_113 rfl ?_
    refine ex_step (pc' := 5) dX12_overOf_116 rfl ?_
    exact ex_less (ls' := [some (.ref 420), some (.int x1), some (.int x2), some (.int x3), some (.int (x4 + 1)), none, none, none]) ⟨rfl, ⟨rfl, ⟨rfl, ⟨rfl, ⟨rfl, trivial⟩⟩⟩⟩⟩ h
  · have h := h.2 c
    refine ex_step (pc' := 47) (st' := [.int 60]) dX12_overOf_45 rfl ?_
    refine ex_step (pc' := 48) dX12_overOf_47 rfl ?_
    refine ex_step (pc' := 49) dX12_overOf_48 rfl ?_
    refine ex_step (pc' := 51) dX12_overOf_49 rfl ?_
    refine ex_step (pc' := 52) dX12_overOf_51 rfl ?_
    refine ex_topi (fun y1 ey1 => ?_)
    have h := h y1 ey1
    refine ex_step (pc' := 54) (ls' := [some (.ref 420), some (.int x1), some (.int x2), some (.int x3), some (.int x4), some (.int x5), some (.int x6), some (.int y1)]) dX12_overOf_52 rfl ?_
    refine ex_step (pc' := 55) dX12_overOf_54 rfl ?_
    refine ex_getr dX12_overOf_55 wf_RX12_131 (ly_a420 hL) rfl (ly_r420_56 hL) ?_
    refine ex_step (pc' := 61) (st' := [.int 870, .ref 458]) dX12_overOf_58 rfl ?_
    refine ex_step (pc' := 63) dX12_overOf_61 rfl ?_
    refine ex_step (pc' := 64) dX12_overOf_63 rfl ?_
    obtain ⟨hv, h⟩ := h
    refine ex_iald dX12_overOf_64 (Or.inl (ly_a458 hL)) hv ?_
    refine ex_step (pc' := 66) dX12_overOf_65 rfl ?_
    refine ex_getr dX12_overOf_66 wf_RX12_131 (ly_a420 hL) rfl (ly_r420_56 hL) ?_
    refine ex_step (pc' := 72) (st' := [.int 870, .ref 458, .int (I 458 ((870 : Int32) + x5).toNatClampNeg)]) dX12_overOf_69 rfl ?_
    refine ex_step (pc' := 74) dX12_overOf_72 rfl ?_
    refine ex_step (pc' := 75) dX12_overOf_74 rfl ?_
    obtain ⟨hv, h⟩ := h
    refine ex_iald dX12_overOf_75 (Or.inl (ly_a458 hL)) hv ?_
    refine ex_icmp (pc' := 107) dX12_overOf_76 (by decide) (fun c => ?_) (fun c => ?_)
    · have h := h.1 c
      refine ex_step (pc' := 110) (ls' := [some (.ref 420), some (.int x1), some (.int x2), some (.int x3), some (.int x4), some (.int x5), some (.int (x6 + 1)), some (.int y1)]) dX12_overOf_107 rfl ?_
      refine ex_step (pc' := 31) dX12_overOf_110 rfl ?_
      exact ex_less (ls' := [some (.ref 420), some (.int x1), some (.int x2), some (.int x3), some (.int x4), some (.int x5), some (.int (x6 + 1)), none]) ⟨rfl, ⟨rfl, ⟨rfl, ⟨rfl, ⟨rfl, ⟨rfl, ⟨rfl, trivial⟩⟩⟩⟩⟩⟩⟩ h
    · have h := h.2 (Classical.not_not.mp c)
      refine ex_step (pc' := 80) dX12_overOf_79 rfl ?_
      refine ex_getr dX12_overOf_80 wf_RX12_131 (ly_a420 hL) rfl (ly_r420_56 hL) ?_
      refine ex_step (pc' := 86) (st' := [.int 450, .ref 458]) dX12_overOf_83 rfl ?_
      refine ex_step (pc' := 88) dX12_overOf_86 rfl ?_
      refine ex_step (pc' := 89) dX12_overOf_88 rfl ?_
      obtain ⟨hv, h⟩ := h
      refine ex_iald dX12_overOf_89 (Or.inl (ly_a458 hL)) hv ?_
      refine ex_step (pc' := 91) dX12_overOf_90 rfl ?_
      refine ex_getr dX12_overOf_91 wf_RX12_131 (ly_a420 hL) rfl (ly_r420_56 hL) ?_
      refine ex_step (pc' := 97) (st' := [.int 450, .ref 458, .int (I 458 ((450 : Int32) + x5).toNatClampNeg)]) dX12_overOf_94 rfl ?_
      refine ex_step (pc' := 99) dX12_overOf_97 rfl ?_
      refine ex_step (pc' := 100) dX12_overOf_99 rfl ?_
      obtain ⟨hv, h⟩ := h
      refine ex_iald dX12_overOf_100 (Or.inl (ly_a458 hL)) hv ?_
      refine ex_icmp (pc' := 107) dX12_overOf_101 (by decide) (fun c => ?_) (fun c => ?_)
      · have h := h.1 c
        refine ex_step (pc' := 110) (ls' := [some (.ref 420), some (.int x1), some (.int x2), some (.int x3), some (.int x4), some (.int x5), some (.int (x6 + 1)), some (.int y1)]) dX12_overOf_107 rfl ?_
        refine ex_step (pc' := 31) dX12_overOf_110 rfl ?_
        exact ex_less (ls' := [some (.ref 420), some (.int x1), some (.int x2), some (.int x3), some (.int x4), some (.int x5), some (.int (x6 + 1)), none]) ⟨rfl, ⟨rfl, ⟨rfl, ⟨rfl, ⟨rfl, ⟨rfl, ⟨rfl, trivial⟩⟩⟩⟩⟩⟩⟩ h
      · have h := h.2 c
        refine ex_step (pc' := 107) (ls' := [some (.ref 420), some (.int x1), some (.int x2), some (.int (x3 + 1)), some (.int x4), some (.int x5), some (.int x6), some (.int y1)]) dX12_overOf_104 rfl ?_
        refine ex_step (pc' := 110) (ls' := [some (.ref 420), some (.int x1), some (.int x2), some (.int (x3 + 1)), some (.int x4), some (.int x5), some (.int (x6 + 1)), some (.int y1)]) dX12_overOf_107 rfl ?_
        refine ex_step (pc' := 31) dX12_overOf_110 rfl ?_
        exact ex_less (ls' := [some (.ref 420), some (.int x1), some (.int x2), some (.int (x3 + 1)), some (.int x4), some (.int x5), some (.int (x6 + 1)), none]) ⟨rfl, ⟨rfl, ⟨rfl, ⟨rfl, ⟨rfl, ⟨rfl, ⟨rfl, trivial⟩⟩⟩⟩⟩⟩⟩ h
set_option maxHeartbeats 4000000 in
theorem BX12_fillsWaits_0 {d : Nat} {Z : zZ} {I : zI} {J : zJ} {o : zO} {t u : Nat}  (hL : zLY Z t u)  (h : zE (d + 1) kX12_fillsWaits 4 [some (.ref 420), some (.int 0), some (.int 0), none] [] Z I J o) : zE (d + 1) kX12_fillsWaits 0 [some (.ref 420), none, none, none] [] Z I J o := by
  refine ex_step (pc' := 1) (st' := [.int 0]) dX12_fillsWaits_0 rfl ?_
  refine ex_step (pc' := 2) (ls' := [some (.ref 420), some (.int 0), none, none]) dX12_fillsWaits_1 rfl ?_
  refine ex_step (pc' := 3) (st' := [.int 0]) dX12_fillsWaits_2 rfl ?_
  refine ex_step (pc' := 4) (ls' := [some (.ref 420), some (.int 0), some (.int 0), none]) dX12_fillsWaits_3 rfl ?_
  exact h
set_option maxHeartbeats 4000000 in
theorem BX12_fillsWaits_4 {d : Nat} {Z : zZ} {I : zI} {J : zJ} {o : zO} {t u : Nat} (x1 : Int32) (x2 : Int32) (hL : zLY Z t u)  (h : (vp_in (I 420 18) 2 ∧ (((I 431 (I 420 18).toNatClampNeg) ≤ x2 → o = (some (.int x1), Z, I, J)) ∧ (¬ (I 431 (I 420 18).toNatClampNeg) ≤ x2 → (vp_in x2 7 ∧ (∀ I1 : zI, I1 = zu I 461 x2.toNatClampNeg 0 → (vp_in ((14 : Int32) + x2) 1290 ∧ (((I1 458 ((14 : Int32) + x2).toNatClampNeg) ≤ 0 → zE (d + 1) kX12_fillsWaits 44 [some (.ref 420), some (.int x1), some (.int x2), some (.int 0)] [] Z I1 J o) ∧ (¬ (I1 458 ((14 : Int32) + x2).toNatClampNeg) ≤ 0 → (∀ y2 : Int32, y2 = (x1 ||| ((1 : Int32) <<< (x2 &&& 31))) → zE (d + 1) kX12_fillsWaits 44 [some (.ref 420), some (.int y2), some (.int x2), some (.int 0)] [] Z I1 J o)))))))))) : zE (d + 1) kX12_fillsWaits 4 [some (.ref 420), some (.int x1), some (.int x2), none] [] Z I J o := by
  refine ex_step (pc' := 5) dX12_fillsWaits_4 rfl ?_
  refine ex_step (pc' := 6) dX12_fillsWaits_5 rfl ?_
  refine ex_getr dX12_fillsWaits_6 wf_RX12_49 (ly_a420 hL) rfl (ly_r420_24 hL) ?_
  refine ex_step (pc' := 10) dX12_fillsWaits_9 rfl ?_
  refine ex_geti dX12_fillsWaits_10 wf_RX12_258 (ly_a420 hL) rfl ?_
  obtain ⟨hv, h⟩ := h
  refine ex_iald dX12_fillsWaits_13 (Or.inl (ly_a431 hL)) hv ?_
  refine ex_icmp (pc' := 95) dX12_fillsWaits_14 (by decide) (fun c => ?_) (fun c => ?_)
  · have h := h.1 c
    refine ex_step (pc' := 96) dX12_fillsWaits_95 rfl ?_
    rw [h]; exact ex_ret (v := some (.int x1)) ⟨dX12_fillsWaits_96, _, rfl, rfl⟩
  · have h := h.2 c
    refine ex_step (pc' := 18) dX12_fillsWaits_17 rfl ?_
    refine ex_getr dX12_fillsWaits_18 wf_RX12_141 (ly_a420 hL) rfl (ly_r420_60 hL) ?_
    refine ex_step (pc' := 22) dX12_fillsWaits_21 rfl ?_
    refine ex_step (pc' := 23) (st' := [.int 0, .int x2, .ref 461]) dX12_fillsWaits_22 rfl ?_
    obtain ⟨hv, h⟩ := h
    refine ex_iastN dX12_fillsWaits_23 (ly_a461 hL) hv (fun I1 eI1 => ?_)
    have h := h I1 eI1
    refine ex_step (pc' := 25) dX12_fillsWaits_24 rfl ?_
    refine ex_getr dX12_fillsWaits_25 wf_RX12_131 (ly_a420 hL) rfl (ly_r420_56 hL) ?_
    refine ex_step (pc' := 30) (st' := [.int 14, .ref 458]) dX12_fillsWaits_28 rfl ?_
    refine ex_step (pc' := 31) dX12_fillsWaits_30 rfl ?_
    refine ex_step (pc' := 32) dX12_fillsWaits_31 rfl ?_
    obtain ⟨hv, h⟩ := h
    refine ex_iald dX12_fillsWaits_32 (Or.inl (ly_a458 hL)) hv ?_
    refine ex_if (pc' := 42) dX12_fillsWaits_33 (by decide) (fun c => ?_) (fun c => ?_)
    · have h := h.1 c
      refine ex_step (pc' := 43) (st' := [.int 0]) dX12_fillsWaits_42 rfl ?_
      refine ex_step (pc' := 44) (ls' := [some (.ref 420), some (.int x1), some (.int x2), some (.int 0)]) dX12_fillsWaits_43 rfl ?_
      exact h
    · have h := h.2 c
      refine ex_step (pc' := 37) dX12_fillsWaits_36 rfl ?_
      refine ex_step (pc' := 38) (st' := [.int 1, .int x1]) dX12_fillsWaits_37 rfl ?_
      refine ex_step (pc' := 39) dX12_fillsWaits_38 rfl ?_
      refine ex_step (pc' := 40) dX12_fillsWaits_39 rfl ?_
      refine ex_step (pc' := 41) dX12_fillsWaits_40 rfl ?_
      refine ex_topi (fun y2 ey2 => ?_)
      have h := h y2 ey2
      refine ex_step (pc' := 42) (ls' := [some (.ref 420), some (.int y2), some (.int x2), none]) dX12_fillsWaits_41 rfl ?_
      refine ex_step (pc' := 43) (st' := [.int 0]) dX12_fillsWaits_42 rfl ?_
      refine ex_step (pc' := 44) (ls' := [some (.ref 420), some (.int y2), some (.int x2), some (.int 0)]) dX12_fillsWaits_43 rfl ?_
      exact h
set_option maxHeartbeats 4000000 in
theorem BX12_fillsWaits_44 {d : Nat} {Z : zZ} {I : zI} {J : zJ} {o : zO} {t u : Nat} (x1 : Int32) (x2 : Int32) (x3 : Int32) (hL : zLY Z t u)  (h : (vp_in (I 420 18) 2 ∧ (((I 431 (I 420 18).toNatClampNeg) ≤ x3 → zE (d + 1) kX12_fillsWaits 4 [some (.ref 420), some (.int x1), some (.int (x2 + 1)), none] [] Z I J o) ∧ (¬ (I 431 (I 420 18).toNatClampNeg) ≤ x3 → ((x3 = x2 → zE (d + 1) kX12_fillsWaits 44 [some (.ref 420), some (.int x1), some (.int x2), some (.int (x3 + 1))] [] Z I J o) ∧ (¬ x3 = x2 → (∃ (v1 : Int32), zE d kX12_overOf 0 [some (.ref 420), some (.int x3), some (.int x2), none, none, none, none, none] [] Z I J (some (.int v1), Z, I, J) ∧ ((v1 ≤ 0 → zE (d + 1) kX12_fillsWaits 44 [some (.ref 420), some (.int x1), some (.int x2), some (.int (x3 + 1))] [] Z I J o) ∧ (¬ v1 ≤ 0 → (vp_in x2 7 ∧ (vp_in x2 7 ∧ (∀ I2 : zI, I2 = zu I 461 x2.toNatClampNeg ((I 461 x2.toNatClampNeg) ||| ((1 : Int32) <<< (x3 &&& 31))) → zE (d + 1) kX12_fillsWaits 44 [some (.ref 420), some (.int x1), some (.int x2), some (.int (x3 + 1))] [] Z I2 J o)))))))))))) : zE (d + 1) kX12_fillsWaits 44 [some (.ref 420), some (.int x1), some (.int x2), some (.int x3)] [] Z I J o := by
  refine ex_step (pc' := 45) dX12_fillsWaits_44 rfl ?_
  refine ex_step (pc' := 46) dX12_fillsWaits_45 rfl ?_
  refine ex_getr dX12_fillsWaits_46 wf_RX12_49 (ly_a420 hL) rfl (ly_r420_24 hL) ?_
  refine ex_step (pc' := 50) dX12_fillsWaits_49 rfl ?_
  refine ex_geti dX12_fillsWaits_50 wf_RX12_258 (ly_a420 hL) rfl ?_
  obtain ⟨hv, h⟩ := h
  refine ex_iald dX12_fillsWaits_53 (Or.inl (ly_a431 hL)) hv ?_
  refine ex_icmp (pc' := 89) dX12_fillsWaits_54 (by decide) (fun c => ?_) (fun c => ?_)
  · have h := h.1 c
    refine ex_step (pc' := 92) (ls' := [some (.ref 420), some (.int x1), some (.int (x2 + 1)), some (.int x3)]) dX12_fillsWaits_89 rfl ?_
    refine ex_step (pc' := 4) dX12_fillsWaits_92 rfl ?_
    exact ex_less (ls' := [some (.ref 420), some (.int x1), some (.int (x2 + 1)), none]) ⟨rfl, ⟨rfl, ⟨rfl, trivial⟩⟩⟩ h
  · have h := h.2 c
    refine ex_step (pc' := 58) dX12_fillsWaits_57 rfl ?_
    refine ex_step (pc' := 59) dX12_fillsWaits_58 rfl ?_
    refine ex_icmp (pc' := 83) dX12_fillsWaits_59 (by decide) (fun c => ?_) (fun c => ?_)
    · have h := h.1 c
      refine ex_step (pc' := 86) (ls' := [some (.ref 420), some (.int x1), some (.int x2), some (.int (x3 + 1))]) dX12_fillsWaits_83 rfl ?_
      refine ex_step (pc' := 44) dX12_fillsWaits_86 rfl ?_
      exact h
    · have h := h.2 c
      refine ex_step (pc' := 63) dX12_fillsWaits_62 rfl ?_
      refine ex_step (pc' := 64) dX12_fillsWaits_63 rfl ?_
      refine ex_step (pc' := 65) dX12_fillsWaits_64 rfl ?_
      obtain ⟨v1, hc, h⟩ := h
      refine ex_callV (as := [.int x3, .int x2]) (st := []) (ci := 12) dX12_fillsWaits_65 zmX12_overOf zl_RX12_410 ziX12_overOf zvX12_overOf (by decide) (ly_a420 hL) rfl (Nat.le_of_ble_eq_true rfl) (Nat.le_of_ble_eq_true rfl) hc ?_
      refine ex_if (pc' := 83) dX12_fillsWaits_68 (by decide) (fun c => ?_) (fun c => ?_)
      · have h := h.1 c
        refine ex_step (pc' := 86) (ls' := [some (.ref 420), some (.int x1), some (.int x2), some (.int (x3 + 1))]) dX12_fillsWaits_83 rfl ?_
        refine ex_step (pc' := 44) dX12_fillsWaits_86 rfl ?_
        exact h
      · have h := h.2 c
        refine ex_step (pc' := 72) dX12_fillsWaits_71 rfl ?_
        refine ex_getr dX12_fillsWaits_72 wf_RX12_141 (ly_a420 hL) rfl (ly_r420_60 hL) ?_
        refine ex_step (pc' := 76) dX12_fillsWaits_75 rfl ?_
        refine ex_step (pc' := 77) dX12_fillsWaits_76 rfl ?_
        obtain ⟨hv, h⟩ := h
        refine ex_iald dX12_fillsWaits_77 (Or.inl (ly_a461 hL)) hv ?_
        refine ex_step (pc' := 79) (st' := [.int 1, .int (I 461 x2.toNatClampNeg), .int x2, .ref 461]) dX12_fillsWaits_78 rfl ?_
        refine ex_step (pc' := 80) dX12_fillsWaits_79 rfl ?_
        refine ex_step (pc' := 81) dX12_fillsWaits_80 rfl ?_
        refine ex_step (pc' := 82) dX12_fillsWaits_81 rfl ?_
        obtain ⟨hv, h⟩ := h
        refine ex_iastN dX12_fillsWaits_82 (ly_a461 hL) hv (fun I2 eI2 => ?_)
        have h := h I2 eI2
        refine ex_step (pc' := 86) (ls' := [some (.ref 420), some (.int x1), some (.int x2), some (.int (x3 + 1))]) dX12_fillsWaits_83 rfl ?_
        refine ex_step (pc' := 44) dX12_fillsWaits_86 rfl ?_
        exact h
set_option maxHeartbeats 4000000 in
theorem BX12_areTwo_0 {d : Nat} {Z : zZ} {I : zI} {J : zJ} {o : zO} {t u : Nat} (x1 : Int32) (x2 : Int32) (hL : zLY Z t u)  (h : (∃ (v1 : Int32), zE (d + 1) kX12_isMan 0 [some (.ref 420), some (.int x1)] [] Z I J (some (.int v1), Z, I, J) ∧ ((v1 = 0 → o = (some (.int 0), Z, I, J)) ∧ (¬ v1 = 0 → (∃ (v2 : Int32), zE (d + 1) kX12_isMan 0 [some (.ref 420), some (.int x2)] [] Z I J (some (.int v2), Z, I, J) ∧ ((v2 = 0 → o = (some (.int 0), Z, I, J)) ∧ (¬ v2 = 0 → ((x1 = x2 → o = (some (.int 0), Z, I, J)) ∧ (¬ x1 = x2 → o = (some (.int 1), Z, I, J)))))))))) : zE (d + 2) kX12_areTwo 0 [some (.ref 420), some (.int x1), some (.int x2)] [] Z I J o := by
  refine ex_step (pc' := 1) dX12_areTwo_0 rfl ?_
  refine ex_step (pc' := 2) dX12_areTwo_1 rfl ?_
  obtain ⟨v1, hc, h⟩ := h
  refine ex_callV (as := [.int x1]) (st := []) (ci := 12) dX12_areTwo_2 zmX12_isMan zl_RX12_394 ziX12_isMan zvX12_isMan (by decide) (ly_a420 hL) rfl (Nat.le_of_ble_eq_true rfl) (Nat.le_of_ble_eq_true rfl) hc ?_
  refine ex_if (pc' := 25) dX12_areTwo_5 (by decide) (fun c => ?_) (fun c => ?_)
  · have h := h.1 c
    refine ex_step (pc' := 26) (st' := [.int 0]) dX12_areTwo_25 rfl ?_
    rw [h]; exact ex_ret (v := some (.int 0)) ⟨dX12_areTwo_26, _, rfl, rfl⟩
  · have h := h.2 c
    refine ex_step (pc' := 9) dX12_areTwo_8 rfl ?_
    refine ex_step (pc' := 10) dX12_areTwo_9 rfl ?_
    obtain ⟨v2, hc, h⟩ := h
    refine ex_callV (as := [.int x2]) (st := []) (ci := 12) dX12_areTwo_10 zmX12_isMan zl_RX12_394 ziX12_isMan zvX12_isMan (by decide) (ly_a420 hL) rfl (Nat.le_of_ble_eq_true rfl) (Nat.le_of_ble_eq_true rfl) hc ?_
    refine ex_if (pc' := 25) dX12_areTwo_13 (by decide) (fun c => ?_) (fun c => ?_)
    · have h := h.1 c
      refine ex_step (pc' := 26) (st' := [.int 0]) dX12_areTwo_25 rfl ?_
      rw [h]; exact ex_ret (v := some (.int 0)) ⟨dX12_areTwo_26, _, rfl, rfl⟩
    · have h := h.2 c
      refine ex_step (pc' := 17) dX12_areTwo_16 rfl ?_
      refine ex_step (pc' := 18) dX12_areTwo_17 rfl ?_
      refine ex_icmp (pc' := 25) dX12_areTwo_18 (by decide) (fun c => ?_) (fun c => ?_)
      · have h := h.1 c
        refine ex_step (pc' := 26) (st' := [.int 0]) dX12_areTwo_25 rfl ?_
        rw [h]; exact ex_ret (v := some (.int 0)) ⟨dX12_areTwo_26, _, rfl, rfl⟩
      · have h := h.2 c
        refine ex_step (pc' := 22) (st' := [.int 1]) dX12_areTwo_21 rfl ?_
        refine ex_step (pc' := 26) dX12_areTwo_22 rfl ?_
        rw [h]; exact ex_ret (v := some (.int 1)) ⟨dX12_areTwo_26, _, rfl, rfl⟩
set_option maxHeartbeats 4000000 in
theorem BX12_over_0 {d : Nat} {Z : zZ} {I : zI} {J : zJ} {o : zO} {t u : Nat} (x1 : Int32) (x2 : Int32) (hL : zLY Z t u)  (h : (∃ (v1 : Int32), zE (d + 2) kX12_areTwo 0 [some (.ref 420), some (.int x1), some (.int x2)] [] Z I J (some (.int v1), Z, I, J) ∧ ((¬ v1 = 0 → (∃ (I2 : zI), zE (d + 2) kX12_copies 0 [some (.ref 420), none] [] Z I J (none, Z, I2, J) ∧ (∃ (v3 : Int32), zE (d + 2) kX12_overOf 0 [some (.ref 420), some (.int x1), some (.int x2), none, none, none, none, none] [] Z I2 J (some (.int v3), Z, I2, J) ∧ o = (some (.int v3), Z, I2, J)))) ∧ (v1 = 0 → o = (some (.int (-1)), Z, I, J))))) : zE (d + 3) kX12_over 0 [some (.ref 420), some (.int x1), some (.int x2)] [] Z I J o := by
  refine ex_step (pc' := 1) dX12_over_0 rfl ?_
  refine ex_step (pc' := 2) dX12_over_1 rfl ?_
  refine ex_step (pc' := 3) dX12_over_2 rfl ?_
  obtain ⟨v1, hc, h⟩ := h
  refine ex_callV (as := [.int x1, .int x2]) (st := []) (ci := 12) dX12_over_3 zmX12_areTwo zl_RX12_413 ziX12_areTwo zvX12_areTwo (by decide) (ly_a420 hL) rfl (Nat.le_of_ble_eq_true rfl) (Nat.le_of_ble_eq_true rfl) hc ?_
  refine ex_if (pc' := 11) dX12_over_6 (by decide) (fun c => ?_) (fun c => ?_)
  · have h := h.1 c
    refine ex_step (pc' := 12) dX12_over_11 rfl ?_
    obtain ⟨I2, hc, h⟩ := h
    refine ex_callV (as := []) (st := []) (ci := 12) dX12_over_12 zmX12_copies zl_RX12_397 ziX12_copies zvX12_copies (by decide) (ly_a420 hL) rfl (Nat.le_of_ble_eq_true rfl) (Nat.le_of_ble_eq_true rfl) hc ?_
    refine ex_step (pc' := 16) dX12_over_15 rfl ?_
    refine ex_step (pc' := 17) dX12_over_16 rfl ?_
    refine ex_step (pc' := 18) dX12_over_17 rfl ?_
    obtain ⟨v3, hc, h⟩ := h
    refine ex_callV (as := [.int x1, .int x2]) (st := []) (ci := 12) dX12_over_18 zmX12_overOf zl_RX12_410 ziX12_overOf zvX12_overOf (by decide) (ly_a420 hL) rfl (Nat.le_of_ble_eq_true rfl) (Nat.le_of_ble_eq_true rfl) hc ?_
    rw [h]; exact ex_ret (v := some (.int v3)) ⟨dX12_over_21, _, rfl, rfl⟩
  · have h := h.2 (Classical.not_not.mp c)
    refine ex_step (pc' := 10) (st' := [.int (-1)]) dX12_over_9 rfl ?_
    rw [h]; exact ex_ret (v := some (.int (-1))) ⟨dX12_over_10, _, rfl, rfl⟩
set_option maxHeartbeats 4000000 in
theorem BX12_waits_0 {d : Nat} {Z : zZ} {I : zI} {J : zJ} {o : zO} {t u : Nat} (x1 : Int32) (hL : zLY Z t u)  (h : (∃ (v1 : Int32), zE (d + 1) kX12_isMan 0 [some (.ref 420), some (.int x1)] [] Z I J (some (.int v1), Z, I, J) ∧ ((¬ v1 = 0 → (∃ (I2 : zI), zE (d + 1) kX12_copies 0 [some (.ref 420), none] [] Z I J (none, Z, I2, J) ∧ (∃ (v3 : Int32) (I4 : zI), zE (d + 1) kX12_fillsWaits 0 [some (.ref 420), none, none, none] [] Z I2 J (some (.int v3), Z, I4, J) ∧ (vp_in x1 7 ∧ o = (some (.int (I4 461 x1.toNatClampNeg)), Z, I4, J))))) ∧ (v1 = 0 → o = (some (.int (-1)), Z, I, J))))) : zE (d + 2) kX12_waits 0 [some (.ref 420), some (.int x1)] [] Z I J o := by
  refine ex_step (pc' := 1) dX12_waits_0 rfl ?_
  refine ex_step (pc' := 2) dX12_waits_1 rfl ?_
  obtain ⟨v1, hc, h⟩ := h
  refine ex_callV (as := [.int x1]) (st := []) (ci := 12) dX12_waits_2 zmX12_isMan zl_RX12_394 ziX12_isMan zvX12_isMan (by decide) (ly_a420 hL) rfl (Nat.le_of_ble_eq_true rfl) (Nat.le_of_ble_eq_true rfl) hc ?_
  refine ex_if (pc' := 10) dX12_waits_5 (by decide) (fun c => ?_) (fun c => ?_)
  · have h := h.1 c
    refine ex_step (pc' := 11) dX12_waits_10 rfl ?_
    obtain ⟨I2, hc, h⟩ := h
    refine ex_callV (as := []) (st := []) (ci := 12) dX12_waits_11 zmX12_copies zl_RX12_397 ziX12_copies zvX12_copies (by decide) (ly_a420 hL) rfl (Nat.le_of_ble_eq_true rfl) (Nat.le_of_ble_eq_true rfl) hc ?_
    refine ex_step (pc' := 15) dX12_waits_14 rfl ?_
    obtain ⟨v3, I4, hc, h⟩ := h
    refine ex_callV (as := []) (st := []) (ci := 12) dX12_waits_15 zmX12_fillsWaits zl_RX12_416 ziX12_fillsWaits zvX12_fillsWaits (by decide) (ly_a420 hL) rfl (Nat.le_of_ble_eq_true rfl) (Nat.le_of_ble_eq_true rfl) hc ?_
    refine ex_step (pc' := 19) dX12_waits_18 rfl ?_
    refine ex_step (pc' := 20) dX12_waits_19 rfl ?_
    refine ex_getr dX12_waits_20 wf_RX12_141 (ly_a420 hL) rfl (ly_r420_60 hL) ?_
    refine ex_step (pc' := 24) dX12_waits_23 rfl ?_
    obtain ⟨hv, h⟩ := h
    refine ex_iald dX12_waits_24 (Or.inl (ly_a461 hL)) hv ?_
    rw [h]; exact ex_ret (v := some (.int (I4 461 x1.toNatClampNeg))) ⟨dX12_waits_25, _, rfl, rfl⟩
  · have h := h.2 (Classical.not_not.mp c)
    refine ex_step (pc' := 9) (st' := [.int (-1)]) dX12_waits_8 rfl ?_
    rw [h]; exact ex_ret (v := some (.int (-1))) ⟨dX12_waits_9, _, rfl, rfl⟩
set_option maxHeartbeats 4000000 in
theorem BX12_fillsOrders_0 {d : Nat} {Z : zZ} {I : zI} {J : zJ} {o : zO} {t u : Nat}  (hL : zLY Z t u)  (h : (∀ I1 : zI, I1 = zu I 462 0 1 → zE d kX12_fillsOrders 9 [some (.ref 420), some (.int 1), none] [] Z I1 J o)) : zE d kX12_fillsOrders 0 [some (.ref 420), none, none] [] Z I J o := by
  refine ex_step (pc' := 1) dX12_fillsOrders_0 rfl ?_
  refine ex_getr dX12_fillsOrders_1 wf_RX12_144 (ly_a420 hL) rfl (ly_r420_61 hL) ?_
  refine ex_step (pc' := 5) (st' := [.int 0, .ref 462]) dX12_fillsOrders_4 rfl ?_
  refine ex_step (pc' := 6) (st' := [.int 1, .int 0, .ref 462]) dX12_fillsOrders_5 rfl ?_
  have hv : vp_in 0 128 := by unfold vp_in; decide
  refine ex_iastN dX12_fillsOrders_6 (ly_a462 hL) hv (fun I1 eI1 => ?_)
  have h := h I1 eI1
  refine ex_step (pc' := 8) (st' := [.int 1]) dX12_fillsOrders_7 rfl ?_
  refine ex_step (pc' := 9) (ls' := [some (.ref 420), some (.int 1), none]) dX12_fillsOrders_8 rfl ?_
  exact h
set_option maxHeartbeats 4000000 in
theorem BX12_fillsOrders_9 {d : Nat} {Z : zZ} {I : zI} {J : zJ} {o : zO} {t u : Nat} (x1 : Int32) (hL : zLY Z t u)  (h : ((128 ≤ x1 → o = (none, Z, I, J)) ∧ (¬ 128 ≤ x1 → (vp_in x1 128 ∧ (∀ I1 : zI, I1 = zu I 462 x1.toNatClampNeg 0 → zE d kX12_fillsOrders 25 [some (.ref 420), some (.int x1), some (.int 0)] [] Z I1 J o))))) : zE d kX12_fillsOrders 9 [some (.ref 420), some (.int x1), none] [] Z I J o := by
  refine ex_step (pc' := 10) dX12_fillsOrders_9 rfl ?_
  refine ex_step (pc' := 13) (st' := [.int 128, .int x1]) dX12_fillsOrders_10 rfl ?_
  refine ex_icmp (pc' := 91) dX12_fillsOrders_13 (by decide) (fun c => ?_) (fun c => ?_)
  · have h := h.1 c
    rw [h]; exact ex_ret (v := none) ⟨dX12_fillsOrders_91, rfl⟩
  · have h := h.2 c
    refine ex_step (pc' := 17) dX12_fillsOrders_16 rfl ?_
    refine ex_getr dX12_fillsOrders_17 wf_RX12_144 (ly_a420 hL) rfl (ly_r420_61 hL) ?_
    refine ex_step (pc' := 21) dX12_fillsOrders_20 rfl ?_
    refine ex_step (pc' := 22) (st' := [.int 0, .int x1, .ref 462]) dX12_fillsOrders_21 rfl ?_
    obtain ⟨hv, h⟩ := h
    refine ex_iastN dX12_fillsOrders_22 (ly_a462 hL) hv (fun I1 eI1 => ?_)
    have h := h I1 eI1
    refine ex_step (pc' := 24) (st' := [.int 0]) dX12_fillsOrders_23 rfl ?_
    refine ex_step (pc' := 25) (ls' := [some (.ref 420), some (.int x1), some (.int 0)]) dX12_fillsOrders_24 rfl ?_
    exact h
set_option maxHeartbeats 4000000 in
theorem BX12_fillsOrders_25 {d : Nat} {Z : zZ} {I : zI} {J : zJ} {o : zO} {t u : Nat} (x1 : Int32) (x2 : Int32) (hL : zLY Z t u)  (h : (vp_in (I 420 18) 2 ∧ (((I 431 (I 420 18).toNatClampNeg) ≤ x2 → zE d kX12_fillsOrders 9 [some (.ref 420), some (.int (x1 + 1)), none] [] Z I J o) ∧ (¬ (I 431 (I 420 18).toNatClampNeg) ≤ x2 → ((¬ ((x1 >>> (x2 &&& 31)) &&& 1) = 1 → zE d kX12_fillsOrders 25 [some (.ref 420), some (.int x1), some (.int (x2 + 1))] [] Z I J o) ∧ (((x1 >>> (x2 &&& 31)) &&& 1) = 1 → (vp_in x2 7 ∧ ((¬ ((I 461 x2.toNatClampNeg) &&& x1) = 0 → zE d kX12_fillsOrders 25 [some (.ref 420), some (.int x1), some (.int (x2 + 1))] [] Z I J o) ∧ (((I 461 x2.toNatClampNeg) &&& x1) = 0 → (vp_in x1 128 ∧ (vp_in (x1 &&& (((1 : Int32) <<< (x2 &&& 31)) ^^^ (-1))) 128 ∧ (vp_in x1 128 ∧ (∀ I1 : zI, I1 = zu I 462 x1.toNatClampNeg ((I 462 x1.toNatClampNeg) + (I 462 (x1 &&& (((1 : Int32) <<< (x2 &&& 31)) ^^^ (-1))).toNatClampNeg)) → zE d kX12_fillsOrders 25 [some (.ref 420), some (.int x1), some (.int (x2 + 1))] [] Z I1 J o))))))))))))) : zE d kX12_fillsOrders 25 [some (.ref 420), some (.int x1), some (.int x2)] [] Z I J o := by
  refine ex_step (pc' := 26) dX12_fillsOrders_25 rfl ?_
  refine ex_step (pc' := 27) dX12_fillsOrders_26 rfl ?_
  refine ex_getr dX12_fillsOrders_27 wf_RX12_49 (ly_a420 hL) rfl (ly_r420_24 hL) ?_
  refine ex_step (pc' := 31) dX12_fillsOrders_30 rfl ?_
  refine ex_geti dX12_fillsOrders_31 wf_RX12_258 (ly_a420 hL) rfl ?_
  obtain ⟨hv, h⟩ := h
  refine ex_iald dX12_fillsOrders_34 (Or.inl (ly_a431 hL)) hv ?_
  refine ex_icmp (pc' := 85) dX12_fillsOrders_35 (by decide) (fun c => ?_) (fun c => ?_)
  · have h := h.1 c
    refine ex_step (pc' := 88) (ls' := [some (.ref 420), some (.int (x1 + 1)), some (.int x2)]) dX12_fillsOrders_85 rfl ?_
    refine ex_step (pc' := 9) dX12_fillsOrders_88 rfl ?_
    exact ex_less (ls' := [some (.ref 420), some (.int (x1 + 1)), none]) ⟨rfl, ⟨rfl, trivial⟩⟩ h
  · have h := h.2 c
    refine ex_step (pc' := 39) dX12_fillsOrders_38 rfl ?_
    refine ex_step (pc' := 40) dX12_fillsOrders_39 rfl ?_
    refine ex_step (pc' := 41) dX12_fillsOrders_40 rfl ?_
    refine ex_step (pc' := 42) (st' := [.int 1, .int (x1 >>> (x2 &&& 31))]) dX12_fillsOrders_41 rfl ?_
    refine ex_step (pc' := 43) dX12_fillsOrders_42 rfl ?_
    refine ex_step (pc' := 44) (st' := [.int 1, .int ((x1 >>> (x2 &&& 31)) &&& 1)]) dX12_fillsOrders_43 rfl ?_
    refine ex_icmp (pc' := 79) dX12_fillsOrders_44 (by decide) (fun c => ?_) (fun c => ?_)
    · have h := h.1 c
      refine ex_step (pc' := 82) (ls' := [some (.ref 420), some (.int x1), some (.int (x2 + 1))]) dX12_fillsOrders_79 rfl ?_
      refine ex_step (pc' := 25) dX12_fillsOrders_82 rfl ?_
      exact h
    · have h := h.2 (Classical.not_not.mp c)
      refine ex_step (pc' := 48) dX12_fillsOrders_47 rfl ?_
      refine ex_getr dX12_fillsOrders_48 wf_RX12_141 (ly_a420 hL) rfl (ly_r420_60 hL) ?_
      refine ex_step (pc' := 52) dX12_fillsOrders_51 rfl ?_
      obtain ⟨hv, h⟩ := h
      refine ex_iald dX12_fillsOrders_52 (Or.inl (ly_a461 hL)) hv ?_
      refine ex_step (pc' := 54) dX12_fillsOrders_53 rfl ?_
      refine ex_step (pc' := 55) dX12_fillsOrders_54 rfl ?_
      refine ex_if (pc' := 79) dX12_fillsOrders_55 (by decide) (fun c => ?_) (fun c => ?_)
      · have h := h.1 c
        refine ex_step (pc' := 82) (ls' := [some (.ref 420), some (.int x1), some (.int (x2 + 1))]) dX12_fillsOrders_79 rfl ?_
        refine ex_step (pc' := 25) dX12_fillsOrders_82 rfl ?_
        exact h
      · have h := h.2 (Classical.not_not.mp c)
        refine ex_step (pc' := 59) dX12_fillsOrders_58 rfl ?_
        refine ex_getr dX12_fillsOrders_59 wf_RX12_144 (ly_a420 hL) rfl (ly_r420_61 hL) ?_
        refine ex_step (pc' := 63) dX12_fillsOrders_62 rfl ?_
        refine ex_step (pc' := 64) dX12_fillsOrders_63 rfl ?_
        obtain ⟨hv, h⟩ := h
        refine ex_iald dX12_fillsOrders_64 (Or.inl (ly_a462 hL)) hv ?_
        refine ex_step (pc' := 66) dX12_fillsOrders_65 rfl ?_
        refine ex_getr dX12_fillsOrders_66 wf_RX12_144 (ly_a420 hL) rfl (ly_r420_61 hL) ?_
        refine ex_step (pc' := 70) dX12_fillsOrders_69 rfl ?_
        refine ex_step (pc' := 71) (st' := [.int 1, .int x1, .ref 462, .int (I 462 x1.toNatClampNeg), .int x1, .ref 462]) dX12_fillsOrders_70 rfl ?_
        refine ex_step (pc' := 72) dX12_fillsOrders_71 rfl ?_
        refine ex_step (pc' := 73) dX12_fillsOrders_72 rfl ?_
        refine ex_step (pc' := 74) (st' := [.int (-1), .int ((1 : Int32) <<< (x2 &&& 31)), .int x1, .ref 462, .int (I 462 x1.toNatClampNeg), .int x1, .ref 462]) dX12_fillsOrders_73 rfl ?_
        refine ex_step (pc' := 75) dX12_fillsOrders_74 rfl ?_
        refine ex_step (pc' := 76) dX12_fillsOrders_75 rfl ?_
        obtain ⟨hv, h⟩ := h
        refine ex_iald dX12_fillsOrders_76 (Or.inl (ly_a462 hL)) hv ?_
        refine ex_step (pc' := 78) dX12_fillsOrders_77 rfl ?_
        obtain ⟨hv, h⟩ := h
        refine ex_iastN dX12_fillsOrders_78 (ly_a462 hL) hv (fun I1 eI1 => ?_)
        have h := h I1 eI1
        refine ex_step (pc' := 82) (ls' := [some (.ref 420), some (.int x1), some (.int (x2 + 1))]) dX12_fillsOrders_79 rfl ?_
        refine ex_step (pc' := 25) dX12_fillsOrders_82 rfl ?_
        exact h
set_option maxHeartbeats 4000000 in
theorem BX12_orders_0 {d : Nat} {Z : zZ} {I : zI} {J : zJ} {o : zO} {t u : Nat}  (hL : zLY Z t u)  (h : (∃ (I1 : zI), zE (d + 1) kX12_copies 0 [some (.ref 420), none] [] Z I J (none, Z, I1, J) ∧ (∃ (v2 : Int32) (I3 : zI), zE (d + 1) kX12_fillsWaits 0 [some (.ref 420), none, none, none] [] Z I1 J (some (.int v2), Z, I3, J) ∧ (∃ (I4 : zI), zE (d + 1) kX12_fillsOrders 0 [some (.ref 420), none, none] [] Z I3 J (none, Z, I4, J) ∧ (vp_in v2 128 ∧ o = (some (.int (I4 462 v2.toNatClampNeg)), Z, I4, J)))))) : zE (d + 2) kX12_orders 0 [some (.ref 420), none] [] Z I J o := by
  refine ex_step (pc' := 1) dX12_orders_0 rfl ?_
  obtain ⟨I1, hc, h⟩ := h
  refine ex_callV (as := []) (st := []) (ci := 12) dX12_orders_1 zmX12_copies zl_RX12_397 ziX12_copies zvX12_copies (by decide) (ly_a420 hL) rfl (Nat.le_of_ble_eq_true rfl) (Nat.le_of_ble_eq_true rfl) hc ?_
  refine ex_step (pc' := 5) dX12_orders_4 rfl ?_
  obtain ⟨v2, I3, hc, h⟩ := h
  refine ex_callV (as := []) (st := []) (ci := 12) dX12_orders_5 zmX12_fillsWaits zl_RX12_416 ziX12_fillsWaits zvX12_fillsWaits (by decide) (ly_a420 hL) rfl (Nat.le_of_ble_eq_true rfl) (Nat.le_of_ble_eq_true rfl) hc ?_
  refine ex_step (pc' := 9) (ls' := [some (.ref 420), some (.int v2)]) dX12_orders_8 rfl ?_
  refine ex_step (pc' := 10) dX12_orders_9 rfl ?_
  obtain ⟨I4, hc, h⟩ := h
  refine ex_callV (as := []) (st := []) (ci := 12) dX12_orders_10 zmX12_fillsOrders zl_RX12_419 ziX12_fillsOrders zvX12_fillsOrders (by decide) (ly_a420 hL) rfl (Nat.le_of_ble_eq_true rfl) (Nat.le_of_ble_eq_true rfl) hc ?_
  refine ex_step (pc' := 14) dX12_orders_13 rfl ?_
  refine ex_getr dX12_orders_14 wf_RX12_144 (ly_a420 hL) rfl (ly_r420_61 hL) ?_
  refine ex_step (pc' := 18) dX12_orders_17 rfl ?_
  obtain ⟨hv, h⟩ := h
  refine ex_iald dX12_orders_18 (Or.inl (ly_a462 hL)) hv ?_
  rw [h]; exact ex_ret (v := some (.int (I4 462 v2.toNatClampNeg))) ⟨dX12_orders_19, _, rfl, rfl⟩
set_option maxHeartbeats 4000000 in
theorem BX12_orderAt_0 {d : Nat} {Z : zZ} {I : zI} {J : zJ} {o : zO} {t u : Nat} (x1 : Int32) (hL : zLY Z t u)  (h : ((0 ≤ x1 → (∃ (I1 : zI), zE (d + 1) kX12_copies 0 [some (.ref 420), none] [] Z I J (none, Z, I1, J) ∧ (∃ (v2 : Int32) (I3 : zI), zE (d + 1) kX12_fillsWaits 0 [some (.ref 420), none, none, none] [] Z I1 J (some (.int v2), Z, I3, J) ∧ (∃ (I4 : zI), zE (d + 1) kX12_fillsOrders 0 [some (.ref 420), none, none] [] Z I3 J (none, Z, I4, J) ∧ (vp_in v2 128 ∧ ((¬ (I4 462 v2.toNatClampNeg) = 0 → zE (d + 2) kX12_orderAt 33 [some (.ref 420), some (.int x1), some (.int v2), some (.int 0), none] [] Z I4 J o) ∧ ((I4 462 v2.toNatClampNeg) = 0 → o = (some (.int (-2)), Z, I4, J)))))))) ∧ (¬ 0 ≤ x1 → o = (some (.int (-1)), Z, I, J)))) : zE (d + 2) kX12_orderAt 0 [some (.ref 420), some (.int x1), none, none, none] [] Z I J o := by
  refine ex_step (pc' := 1) dX12_orderAt_0 rfl ?_
  refine ex_if (pc' := 6) dX12_orderAt_1 (by decide) (fun c => ?_) (fun c => ?_)
  · have h := h.1 c
    refine ex_step (pc' := 7) dX12_orderAt_6 rfl ?_
    obtain ⟨I1, hc, h⟩ := h
    refine ex_callV (as := []) (st := []) (ci := 12) dX12_orderAt_7 zmX12_copies zl_RX12_397 ziX12_copies zvX12_copies (by decide) (ly_a420 hL) rfl (Nat.le_of_ble_eq_true rfl) (Nat.le_of_ble_eq_true rfl) hc ?_
    refine ex_step (pc' := 11) dX12_orderAt_10 rfl ?_
    obtain ⟨v2, I3, hc, h⟩ := h
    refine ex_callV (as := []) (st := []) (ci := 12) dX12_orderAt_11 zmX12_fillsWaits zl_RX12_416 ziX12_fillsWaits zvX12_fillsWaits (by decide) (ly_a420 hL) rfl (Nat.le_of_ble_eq_true rfl) (Nat.le_of_ble_eq_true rfl) hc ?_
    refine ex_step (pc' := 15) (ls' := [some (.ref 420), some (.int x1), some (.int v2), none, none]) dX12_orderAt_14 rfl ?_
    refine ex_step (pc' := 16) dX12_orderAt_15 rfl ?_
    obtain ⟨I4, hc, h⟩ := h
    refine ex_callV (as := []) (st := []) (ci := 12) dX12_orderAt_16 zmX12_fillsOrders zl_RX12_419 ziX12_fillsOrders zvX12_fillsOrders (by decide) (ly_a420 hL) rfl (Nat.le_of_ble_eq_true rfl) (Nat.le_of_ble_eq_true rfl) hc ?_
    refine ex_step (pc' := 20) dX12_orderAt_19 rfl ?_
    refine ex_getr dX12_orderAt_20 wf_RX12_144 (ly_a420 hL) rfl (ly_r420_61 hL) ?_
    refine ex_step (pc' := 24) dX12_orderAt_23 rfl ?_
    obtain ⟨hv, h⟩ := h
    refine ex_iald dX12_orderAt_24 (Or.inl (ly_a462 hL)) hv ?_
    refine ex_if (pc' := 31) dX12_orderAt_25 (by decide) (fun c => ?_) (fun c => ?_)
    · have h := h.1 c
      refine ex_step (pc' := 32) (st' := [.int 0]) dX12_orderAt_31 rfl ?_
      refine ex_step (pc' := 33) (ls' := [some (.ref 420), some (.int x1), some (.int v2), some (.int 0), none]) dX12_orderAt_32 rfl ?_
      exact h
    · have h := h.2 (Classical.not_not.mp c)
      refine ex_step (pc' := 30) (st' := [.int (-2)]) dX12_orderAt_28 rfl ?_
      rw [h]; exact ex_ret (v := some (.int (-2))) ⟨dX12_orderAt_30, _, rfl, rfl⟩
  · have h := h.2 c
    refine ex_step (pc' := 5) (st' := [.int (-1)]) dX12_orderAt_4 rfl ?_
    rw [h]; exact ex_ret (v := some (.int (-1))) ⟨dX12_orderAt_5, _, rfl, rfl⟩
set_option maxHeartbeats 4000000 in
theorem BX12_orderAt_33 {d : Nat} {Z : zZ} {I : zI} {J : zJ} {o : zO} {t u : Nat} (x1 : Int32) (x2 : Int32) (x3 : Int32) (hL : zLY Z t u)  (h : ((x2 = 0 → o = (some (.int (-1)), Z, I, J)) ∧ (¬ x2 = 0 → zE (d + 2) kX12_orderAt 40 [some (.ref 420), some (.int x1), some (.int x2), some (.int x3), some (.int 0)] [] Z I J o))) : zE (d + 2) kX12_orderAt 33 [some (.ref 420), some (.int x1), some (.int x2), some (.int x3), none] [] Z I J o := by
  refine ex_step (pc' := 34) dX12_orderAt_33 rfl ?_
  refine ex_if (pc' := 106) dX12_orderAt_34 (by decide) (fun c => ?_) (fun c => ?_)
  · have h := h.1 c
    refine ex_step (pc' := 107) (st' := [.int (-1)]) dX12_orderAt_106 rfl ?_
    rw [h]; exact ex_ret (v := some (.int (-1))) ⟨dX12_orderAt_107, _, rfl, rfl⟩
  · have h := h.2 c
    refine ex_step (pc' := 38) (st' := [.int 0]) dX12_orderAt_37 rfl ?_
    refine ex_step (pc' := 40) (ls' := [some (.ref 420), some (.int x1), some (.int x2), some (.int x3), some (.int 0)]) dX12_orderAt_38 rfl ?_
    exact h
set_option maxHeartbeats 4000000 in
theorem BX12_orderAt_40 {d : Nat} {Z : zZ} {I : zI} {J : zJ} {o : zO} {t u : Nat} (x1 : Int32) (x2 : Int32) (x3 : Int32) (x4 : Int32) (hL : zLY Z t u)  (h : ((((x2 >>> (x4 &&& 31)) &&& 1) = 0 → zE (d + 2) kX12_orderAt 40 [some (.ref 420), some (.int x1), some (.int x2), some (.int x3), some (.int (x4 + 1))] [] Z I J o) ∧ (¬ ((x2 >>> (x4 &&& 31)) &&& 1) = 0 → (vp_in x4 7 ∧ ((¬ ((I 461 x4.toNatClampNeg) &&& x2) = 0 → zE (d + 2) kX12_orderAt 40 [some (.ref 420), some (.int x1), some (.int x2), some (.int x3), some (.int (x4 + 1))] [] Z I J o) ∧ (((I 461 x4.toNatClampNeg) &&& x2) = 0 → (vp_in (x2 &&& (((1 : Int32) <<< (x4 &&& 31)) ^^^ (-1))) 128 ∧ ((¬ (I 462 (x2 &&& (((1 : Int32) <<< (x4 &&& 31)) ^^^ (-1))).toNatClampNeg) = 0 → ((¬ x3 = x1 → (∀ y1 : Int32, y1 = (x2 &&& (((1 : Int32) <<< (x4 &&& 31)) ^^^ (-1))) → zE (d + 2) kX12_orderAt 33 [some (.ref 420), some (.int x1), some (.int y1), some (.int (x3 + 1)), none] [] Z I J o)) ∧ (x3 = x1 → o = (some (.int x4), Z, I, J)))) ∧ ((I 462 (x2 &&& (((1 : Int32) <<< (x4 &&& 31)) ^^^ (-1))).toNatClampNeg) = 0 → zE (d + 2) kX12_orderAt 40 [some (.ref 420), some (.int x1), some (.int x2), some (.int x3), some (.int (x4 + 1))] [] Z I J o))))))))) : zE (d + 2) kX12_orderAt 40 [some (.ref 420), some (.int x1), some (.int x2), some (.int x3), some (.int x4)] [] Z I J o := by
  refine ex_step (pc' := 41) dX12_orderAt_40 rfl ?_
  refine ex_step (pc' := 43) dX12_orderAt_41 rfl ?_
  refine ex_step (pc' := 44) dX12_orderAt_43 rfl ?_
  refine ex_step (pc' := 45) (st' := [.int 1, .int (x2 >>> (x4 &&& 31))]) dX12_orderAt_44 rfl ?_
  refine ex_step (pc' := 46) dX12_orderAt_45 rfl ?_
  refine ex_if (pc' := 77) dX12_orderAt_46 (by decide) (fun c => ?_) (fun c => ?_)
  · have h := h.1 c
    refine ex_step (pc' := 80) (ls' := [some (.ref 420), some (.int x1), some (.int x2), some (.int x3), some (.int (x4 + 1))]) dX12_orderAt_77 rfl ?_
    refine ex_step (pc' := 40) dX12_orderAt_80 rfl ?_
    exact h
  · have h := h.2 c
    refine ex_step (pc' := 50) dX12_orderAt_49 rfl ?_
    refine ex_getr dX12_orderAt_50 wf_RX12_141 (ly_a420 hL) rfl (ly_r420_60 hL) ?_
    refine ex_step (pc' := 55) dX12_orderAt_53 rfl ?_
    obtain ⟨hv, h⟩ := h
    refine ex_iald dX12_orderAt_55 (Or.inl (ly_a461 hL)) hv ?_
    refine ex_step (pc' := 57) dX12_orderAt_56 rfl ?_
    refine ex_step (pc' := 58) dX12_orderAt_57 rfl ?_
    refine ex_if (pc' := 77) dX12_orderAt_58 (by decide) (fun c => ?_) (fun c => ?_)
    · have h := h.1 c
      refine ex_step (pc' := 80) (ls' := [some (.ref 420), some (.int x1), some (.int x2), some (.int x3), some (.int (x4 + 1))]) dX12_orderAt_77 rfl ?_
      refine ex_step (pc' := 40) dX12_orderAt_80 rfl ?_
      exact h
    · have h := h.2 (Classical.not_not.mp c)
      refine ex_step (pc' := 62) dX12_orderAt_61 rfl ?_
      refine ex_getr dX12_orderAt_62 wf_RX12_144 (ly_a420 hL) rfl (ly_r420_61 hL) ?_
      refine ex_step (pc' := 66) dX12_orderAt_65 rfl ?_
      refine ex_step (pc' := 67) (st' := [.int 1, .int x2, .ref 462]) dX12_orderAt_66 rfl ?_
      refine ex_step (pc' := 69) dX12_orderAt_67 rfl ?_
      refine ex_step (pc' := 70) dX12_orderAt_69 rfl ?_
      refine ex_step (pc' := 71) (st' := [.int (-1), .int ((1 : Int32) <<< (x4 &&& 31)), .int x2, .ref 462]) dX12_orderAt_70 rfl ?_
      refine ex_step (pc' := 72) dX12_orderAt_71 rfl ?_
      refine ex_step (pc' := 73) dX12_orderAt_72 rfl ?_
      obtain ⟨hv, h⟩ := h
      refine ex_iald dX12_orderAt_73 (Or.inl (ly_a462 hL)) hv ?_
      refine ex_if (pc' := 83) dX12_orderAt_74 (by decide) (fun c => ?_) (fun c => ?_)
      · have h := h.1 c
        refine ex_step (pc' := 84) dX12_orderAt_83 rfl ?_
        refine ex_step (pc' := 85) dX12_orderAt_84 rfl ?_
        refine ex_icmp (pc' := 91) dX12_orderAt_85 (by decide) (fun c => ?_) (fun c => ?_)
        · have h := h.1 c
          refine ex_step (pc' := 92) dX12_orderAt_91 rfl ?_
          refine ex_step (pc' := 93) (st' := [.int 1, .int x2]) dX12_orderAt_92 rfl ?_
          refine ex_step (pc' := 95) dX12_orderAt_93 rfl ?_
          refine ex_step (pc' := 96) dX12_orderAt_95 rfl ?_
          refine ex_step (pc' := 97) (st' := [.int (-1), .int ((1 : Int32) <<< (x4 &&& 31)), .int x2]) dX12_orderAt_96 rfl ?_
          refine ex_step (pc' := 98) dX12_orderAt_97 rfl ?_
          refine ex_step (pc' := 99) dX12_orderAt_98 rfl ?_
          refine ex_topi (fun y1 ey1 => ?_)
          have h := h y1 ey1
          refine ex_step (pc' := 100) (ls' := [some (.ref 420), some (.int x1), some (.int y1), some (.int x3), some (.int x4)]) dX12_orderAt_99 rfl ?_
          refine ex_step (pc' := 103) (ls' := [some (.ref 420), some (.int x1), some (.int y1), some (.int (x3 + 1)), some (.int x4)]) dX12_orderAt_100 rfl ?_
          refine ex_step (pc' := 33) dX12_orderAt_103 rfl ?_
          exact ex_less (ls' := [some (.ref 420), some (.int x1), some (.int y1), some (.int (x3 + 1)), none]) ⟨rfl, ⟨rfl, ⟨rfl, ⟨rfl, trivial⟩⟩⟩⟩ h
        · have h := h.2 (Classical.not_not.mp c)
          refine ex_step (pc' := 90) dX12_orderAt_88 rfl ?_
          rw [h]; exact ex_ret (v := some (.int x4)) ⟨dX12_orderAt_90, _, rfl, rfl⟩
      · have h := h.2 (Classical.not_not.mp c)
        refine ex_step (pc' := 80) (ls' := [some (.ref 420), some (.int x1), some (.int x2), some (.int x3), some (.int (x4 + 1))]) dX12_orderAt_77 rfl ?_
        refine ex_step (pc' := 40) dX12_orderAt_80 rfl ?_
        exact h
set_option maxHeartbeats 4000000 in
theorem BX12_bits_0 {d : Nat} {Z : zZ} {I : zI} {J : zJ} {o : zO} (x0 : Int32)  (h : zE d kX12_bits 4 [some (.int x0), some (.int 0), some (.int 0)] [] Z I J o) : zE d kX12_bits 0 [some (.int x0), none, none] [] Z I J o := by
  refine ex_step (pc' := 1) (st' := [.int 0]) dX12_bits_0 rfl ?_
  refine ex_step (pc' := 2) (ls' := [some (.int x0), some (.int 0), none]) dX12_bits_1 rfl ?_
  refine ex_step (pc' := 3) (st' := [.int 0]) dX12_bits_2 rfl ?_
  refine ex_step (pc' := 4) (ls' := [some (.int x0), some (.int 0), some (.int 0)]) dX12_bits_3 rfl ?_
  exact h
set_option maxHeartbeats 4000000 in
theorem BX12_bits_4 {d : Nat} {Z : zZ} {I : zI} {J : zJ} {o : zO} (x0 : Int32) (x1 : Int32) (x2 : Int32)  (h : ((7 ≤ x2 → o = (some (.int x1), Z, I, J)) ∧ (¬ 7 ≤ x2 → (∀ y1 : Int32, y1 = (x1 + ((x0 >>> (x2 &&& 31)) &&& 1)) → zE d kX12_bits 4 [some (.int x0), some (.int y1), some (.int (x2 + 1))] [] Z I J o)))) : zE d kX12_bits 4 [some (.int x0), some (.int x1), some (.int x2)] [] Z I J o := by
  refine ex_step (pc' := 5) dX12_bits_4 rfl ?_
  refine ex_step (pc' := 7) (st' := [.int 7, .int x2]) dX12_bits_5 rfl ?_
  refine ex_icmp (pc' := 24) dX12_bits_7 (by decide) (fun c => ?_) (fun c => ?_)
  · have h := h.1 c
    refine ex_step (pc' := 25) dX12_bits_24 rfl ?_
    rw [h]; exact ex_ret (v := some (.int x1)) ⟨dX12_bits_25, _, rfl, rfl⟩
  · have h := h.2 c
    refine ex_step (pc' := 11) dX12_bits_10 rfl ?_
    refine ex_step (pc' := 12) dX12_bits_11 rfl ?_
    refine ex_step (pc' := 13) dX12_bits_12 rfl ?_
    refine ex_step (pc' := 14) dX12_bits_13 rfl ?_
    refine ex_step (pc' := 15) (st' := [.int 1, .int (x0 >>> (x2 &&& 31)), .int x1]) dX12_bits_14 rfl ?_
    refine ex_step (pc' := 16) dX12_bits_15 rfl ?_
    refine ex_step (pc' := 17) dX12_bits_16 rfl ?_
    refine ex_topi (fun y1 ey1 => ?_)
    have h := h y1 ey1
    refine ex_step (pc' := 18) (ls' := [some (.int x0), some (.int y1), some (.int x2)]) dX12_bits_17 rfl ?_
    refine ex_step (pc' := 21) (ls' := [some (.int x0), some (.int y1), some (.int (x2 + 1))]) dX12_bits_18 rfl ?_
    refine ex_step (pc' := 4) dX12_bits_21 rfl ?_
    exact h
set_option maxHeartbeats 4000000 in
theorem BX12_piecesOf_0 {d : Nat} {Z : zZ} {I : zI} {J : zJ} {o : zO} {t u : Nat} (x1 : Int32) (hL : zLY Z t u)  (h : zE d kX12_piecesOf 4 [some (.ref 420), some (.int x1), some (.int 0), some (.int 0)] [] Z I J o) : zE d kX12_piecesOf 0 [some (.ref 420), some (.int x1), none, none] [] Z I J o := by
  refine ex_step (pc' := 1) (st' := [.int 0]) dX12_piecesOf_0 rfl ?_
  refine ex_step (pc' := 2) (ls' := [some (.ref 420), some (.int x1), some (.int 0), none]) dX12_piecesOf_1 rfl ?_
  refine ex_step (pc' := 3) (st' := [.int 0]) dX12_piecesOf_2 rfl ?_
  refine ex_step (pc' := 4) (ls' := [some (.ref 420), some (.int x1), some (.int 0), some (.int 0)]) dX12_piecesOf_3 rfl ?_
  exact h
set_option maxHeartbeats 4000000 in
theorem BX12_piecesOf_4 {d : Nat} {Z : zZ} {I : zI} {J : zJ} {o : zO} {t u : Nat} (x1 : Int32) (x2 : Int32) (x3 : Int32) (hL : zLY Z t u)  (h : (vp_in (I 420 18) 2 ∧ (((I 431 (I 420 18).toNatClampNeg) ≤ x3 → o = (some (.int x2), Z, I, J)) ∧ (¬ (I 431 (I 420 18).toNatClampNeg) ≤ x3 → ((¬ ((x1 >>> (x3 &&& 31)) &&& 1) = 1 → zE d kX12_piecesOf 4 [some (.ref 420), some (.int x1), some (.int x2), some (.int (x3 + 1))] [] Z I J o) ∧ (((x1 >>> (x3 &&& 31)) &&& 1) = 1 → (vp_in ((14 : Int32) + x3) 1290 ∧ (∀ y1 : Int32, y1 = (x2 + (I 458 ((14 : Int32) + x3).toNatClampNeg)) → zE d kX12_piecesOf 4 [some (.ref 420), some (.int x1), some (.int y1), some (.int (x3 + 1))] [] Z I J o)))))))) : zE d kX12_piecesOf 4 [some (.ref 420), some (.int x1), some (.int x2), some (.int x3)] [] Z I J o := by
  refine ex_step (pc' := 5) dX12_piecesOf_4 rfl ?_
  refine ex_step (pc' := 6) dX12_piecesOf_5 rfl ?_
  refine ex_getr dX12_piecesOf_6 wf_RX12_49 (ly_a420 hL) rfl (ly_r420_24 hL) ?_
  refine ex_step (pc' := 10) dX12_piecesOf_9 rfl ?_
  refine ex_geti dX12_piecesOf_10 wf_RX12_258 (ly_a420 hL) rfl ?_
  obtain ⟨hv, h⟩ := h
  refine ex_iald dX12_piecesOf_13 (Or.inl (ly_a431 hL)) hv ?_
  refine ex_icmp (pc' := 44) dX12_piecesOf_14 (by decide) (fun c => ?_) (fun c => ?_)
  · have h := h.1 c
    refine ex_step (pc' := 45) dX12_piecesOf_44 rfl ?_
    rw [h]; exact ex_ret (v := some (.int x2)) ⟨dX12_piecesOf_45, _, rfl, rfl⟩
  · have h := h.2 c
    refine ex_step (pc' := 18) dX12_piecesOf_17 rfl ?_
    refine ex_step (pc' := 19) dX12_piecesOf_18 rfl ?_
    refine ex_step (pc' := 20) dX12_piecesOf_19 rfl ?_
    refine ex_step (pc' := 21) (st' := [.int 1, .int (x1 >>> (x3 &&& 31))]) dX12_piecesOf_20 rfl ?_
    refine ex_step (pc' := 22) dX12_piecesOf_21 rfl ?_
    refine ex_step (pc' := 23) (st' := [.int 1, .int ((x1 >>> (x3 &&& 31)) &&& 1)]) dX12_piecesOf_22 rfl ?_
    refine ex_icmp (pc' := 38) dX12_piecesOf_23 (by decide) (fun c => ?_) (fun c => ?_)
    · have h := h.1 c
      refine ex_step (pc' := 41) (ls' := [some (.ref 420), some (.int x1), some (.int x2), some (.int (x3 + 1))]) dX12_piecesOf_38 rfl ?_
      refine ex_step (pc' := 4) dX12_piecesOf_41 rfl ?_
      exact h
    · have h := h.2 (Classical.not_not.mp c)
      refine ex_step (pc' := 27) dX12_piecesOf_26 rfl ?_
      refine ex_step (pc' := 28) dX12_piecesOf_27 rfl ?_
      refine ex_getr dX12_piecesOf_28 wf_RX12_131 (ly_a420 hL) rfl (ly_r420_56 hL) ?_
      refine ex_step (pc' := 33) (st' := [.int 14, .ref 458, .int x2]) dX12_piecesOf_31 rfl ?_
      refine ex_step (pc' := 34) dX12_piecesOf_33 rfl ?_
      refine ex_step (pc' := 35) dX12_piecesOf_34 rfl ?_
      obtain ⟨hv, h⟩ := h
      refine ex_iald dX12_piecesOf_35 (Or.inl (ly_a458 hL)) hv ?_
      refine ex_step (pc' := 37) dX12_piecesOf_36 rfl ?_
      refine ex_topi (fun y1 ey1 => ?_)
      have h := h y1 ey1
      refine ex_step (pc' := 38) (ls' := [some (.ref 420), some (.int x1), some (.int y1), some (.int x3)]) dX12_piecesOf_37 rfl ?_
      refine ex_step (pc' := 41) (ls' := [some (.ref 420), some (.int x1), some (.int y1), some (.int (x3 + 1))]) dX12_piecesOf_38 rfl ?_
      refine ex_step (pc' := 4) dX12_piecesOf_41 rfl ?_
      exact h
set_option maxHeartbeats 4000000 in
theorem BX12_cuts_0 {d : Nat} {Z : zZ} {I : zI} {J : zJ} {o : zO} {t u : Nat} (x1 : Int32) (hL : zLY Z t u)  (h : ((¬ (zbi (0 ≤ x1 ∧ x1 ≤ 2)) = 0 → (∃ (I1 : zI), zE (d + 1) kX12_copies 0 [some (.ref 420), none] [] Z I J (none, Z, I1, J) ∧ (∃ (v2 : Int32) (I3 : zI), zE (d + 1) kX12_fillsWaits 0 [some (.ref 420), none, none, none] [] Z I1 J (some (.int v2), Z, I3, J) ∧ (∃ (I4 : zI), zE (d + 1) kX12_fillsOrders 0 [some (.ref 420), none, none] [] Z I3 J (none, Z, I4, J) ∧ zE (d + 2) kX12_cuts 29 [some (.ref 420), some (.int x1), some (.int v2), some (.int v2), some (.int 0), none] [] Z I4 J o)))) ∧ ((zbi (0 ≤ x1 ∧ x1 ≤ 2)) = 0 → o = (some (.int (-1)), Z, I, J)))) : zE (d + 2) kX12_cuts 0 [some (.ref 420), some (.int x1), none, none, none, none] [] Z I J o := by
  refine ex_step (pc' := 1) dX12_cuts_0 rfl ?_
  refine ex_step (pc' := 2) (st' := [.int 0, .int x1]) dX12_cuts_1 rfl ?_
  refine ex_step (pc' := 3) (st' := [.int 2, .int 0, .int x1]) dX12_cuts_2 rfl ?_
  refine ex_callS (as := [.int x1, .int 0, .int 2]) (st := []) dX12_cuts_3 zmX12_in zl_RX12_345 zsX12_in rfl (Nat.le_of_ble_eq_true rfl) (Nat.le_of_ble_eq_true rfl) M_in ?_
  refine ex_if (pc' := 11) dX12_cuts_6 (by decide) (fun c => ?_) (fun c => ?_)
  · have h := h.1 c
    refine ex_step (pc' := 12) dX12_cuts_11 rfl ?_
    obtain ⟨I1, hc, h⟩ := h
    refine ex_callV (as := []) (st := []) (ci := 12) dX12_cuts_12 zmX12_copies zl_RX12_397 ziX12_copies zvX12_copies (by decide) (ly_a420 hL) rfl (Nat.le_of_ble_eq_true rfl) (Nat.le_of_ble_eq_true rfl) hc ?_
    refine ex_step (pc' := 16) dX12_cuts_15 rfl ?_
    obtain ⟨v2, I3, hc, h⟩ := h
    refine ex_callV (as := []) (st := []) (ci := 12) dX12_cuts_16 zmX12_fillsWaits zl_RX12_416 ziX12_fillsWaits zvX12_fillsWaits (by decide) (ly_a420 hL) rfl (Nat.le_of_ble_eq_true rfl) (Nat.le_of_ble_eq_true rfl) hc ?_
    refine ex_step (pc' := 20) (ls' := [some (.ref 420), some (.int x1), some (.int v2), none, none, none]) dX12_cuts_19 rfl ?_
    refine ex_step (pc' := 21) dX12_cuts_20 rfl ?_
    obtain ⟨I4, hc, h⟩ := h
    refine ex_callV (as := []) (st := []) (ci := 12) dX12_cuts_21 zmX12_fillsOrders zl_RX12_419 ziX12_fillsOrders zvX12_fillsOrders (by decide) (ly_a420 hL) rfl (Nat.le_of_ble_eq_true rfl) (Nat.le_of_ble_eq_true rfl) hc ?_
    refine ex_step (pc' := 25) dX12_cuts_24 rfl ?_
    refine ex_step (pc' := 26) (ls' := [some (.ref 420), some (.int x1), some (.int v2), some (.int v2), none, none]) dX12_cuts_25 rfl ?_
    refine ex_step (pc' := 27) (st' := [.int 0]) dX12_cuts_26 rfl ?_
    refine ex_step (pc' := 29) (ls' := [some (.ref 420), some (.int x1), some (.int v2), some (.int v2), some (.int 0), none]) dX12_cuts_27 rfl ?_
    exact h
  · have h := h.2 (Classical.not_not.mp c)
    refine ex_step (pc' := 10) (st' := [.int (-1)]) dX12_cuts_9 rfl ?_
    rw [h]; exact ex_ret (v := some (.int (-1))) ⟨dX12_cuts_10, _, rfl, rfl⟩
set_option maxHeartbeats 4000000 in
theorem BX12_cuts_29 {d : Nat} {Z : zZ} {I : zI} {J : zJ} {o : zO} {t u : Nat} (x1 : Int32) (x2 : Int32) (x3 : Int32) (x4 : Int32) (hL : zLY Z t u)  (h : ((128 ≤ x4 → ((¬ x1 = 0 → ((¬ x1 = 1 → o = (some (.int x3), Z, I, J)) ∧ (x1 = 1 → (∃ (v1 : Int32), zE (d + 1) kX12_piecesOf 0 [some (.ref 420), some (.int x3), none, none] [] Z I J (some (.int v1), Z, I, J) ∧ o = (some (.int v1), Z, I, J))))) ∧ (x1 = 0 → (∃ (v2 : Int32), zE (d + 1) kX12_bits 0 [some (.int x3), none, none] [] Z I J (some (.int v2), Z, I, J) ∧ o = (some (.int v2), Z, I, J))))) ∧ (¬ 128 ≤ x4 → ((¬ (x4 &&& (x2 ^^^ (-1))) = 0 → zE (d + 2) kX12_cuts 29 [some (.ref 420), some (.int x1), some (.int x2), some (.int x3), some (.int (x4 + 1)), none] [] Z I J o) ∧ ((x4 &&& (x2 ^^^ (-1))) = 0 → (vp_in (x2 &&& (x4 ^^^ (-1))) 128 ∧ ((¬ (I 462 (x2 &&& (x4 ^^^ (-1))).toNatClampNeg) = 0 → (∃ (v3 : Int32), zE (d + 1) kX12_bits 0 [some (.int x4), none, none] [] Z I J (some (.int v3), Z, I, J) ∧ (∃ (v4 : Int32), zE (d + 1) kX12_bits 0 [some (.int x3), none, none] [] Z I J (some (.int v4), Z, I, J) ∧ (((v3 - v4) < 0 → zE (d + 2) kX12_cuts 29 [some (.ref 420), some (.int x1), some (.int x2), some (.int x4), some (.int (x4 + 1)), none] [] Z I J o) ∧ (¬ (v3 - v4) < 0 → ((¬ (v3 - v4) = 0 → zE (d + 2) kX12_cuts 29 [some (.ref 420), some (.int x1), some (.int x2), some (.int x3), some (.int (x4 + 1)), none] [] Z I J o) ∧ ((v3 - v4) = 0 → (∃ (v5 : Int32), zE (d + 1) kX12_piecesOf 0 [some (.ref 420), some (.int x4), none, none] [] Z I J (some (.int v5), Z, I, J) ∧ (∃ (v6 : Int32), zE (d + 1) kX12_piecesOf 0 [some (.ref 420), some (.int x3), none, none] [] Z I J (some (.int v6), Z, I, J) ∧ ((v6 ≤ v5 → zE (d + 2) kX12_cuts 29 [some (.ref 420), some (.int x1), some (.int x2), some (.int x3), some (.int (x4 + 1)), none] [] Z I J o) ∧ (¬ v6 ≤ v5 → zE (d + 2) kX12_cuts 29 [some (.ref 420), some (.int x1), some (.int x2), some (.int x4), some (.int (x4 + 1)), none] [] Z I J o))))))))))) ∧ ((I 462 (x2 &&& (x4 ^^^ (-1))).toNatClampNeg) = 0 → zE (d + 2) kX12_cuts 29 [some (.ref 420), some (.int x1), some (.int x2), some (.int x3), some (.int (x4 + 1)), none] [] Z I J o)))))))) : zE (d + 2) kX12_cuts 29 [some (.ref 420), some (.int x1), some (.int x2), some (.int x3), some (.int x4), none] [] Z I J o := by
  refine ex_step (pc' := 31) dX12_cuts_29 rfl ?_
  refine ex_step (pc' := 34) (st' := [.int 128, .int x4]) dX12_cuts_31 rfl ?_
  refine ex_icmp (pc' := 108) dX12_cuts_34 (by decide) (fun c => ?_) (fun c => ?_)
  · have h := h.1 c
    refine ex_step (pc' := 109) dX12_cuts_108 rfl ?_
    refine ex_if (pc' := 119) dX12_cuts_109 (by decide) (fun c => ?_) (fun c => ?_)
    · have h := h.1 c
      refine ex_step (pc' := 120) dX12_cuts_119 rfl ?_
      refine ex_step (pc' := 121) (st' := [.int 1, .int x1]) dX12_cuts_120 rfl ?_
      refine ex_icmp (pc' := 132) dX12_cuts_121 (by decide) (fun c => ?_) (fun c => ?_)
      · have h := h.1 c
        refine ex_step (pc' := 133) dX12_cuts_132 rfl ?_
        rw [h]; exact ex_ret (v := some (.int x3)) ⟨dX12_cuts_133, _, rfl, rfl⟩
      · have h := h.2 (Classical.not_not.mp c)
        refine ex_step (pc' := 125) dX12_cuts_124 rfl ?_
        refine ex_step (pc' := 126) dX12_cuts_125 rfl ?_
        obtain ⟨v1, hc, h⟩ := h
        refine ex_callV (as := [.int x3]) (st := []) (ci := 12) dX12_cuts_126 zmX12_piecesOf zl_RX12_425 ziX12_piecesOf zvX12_piecesOf (by decide) (ly_a420 hL) rfl (Nat.le_of_ble_eq_true rfl) (Nat.le_of_ble_eq_true rfl) hc ?_
        refine ex_step (pc' := 133) dX12_cuts_129 rfl ?_
        rw [h]; exact ex_ret (v := some (.int v1)) ⟨dX12_cuts_133, _, rfl, rfl⟩
    · have h := h.2 (Classical.not_not.mp c)
      refine ex_step (pc' := 113) dX12_cuts_112 rfl ?_
      obtain ⟨v2, hc, h⟩ := h
      refine ex_callS (as := [.int x3]) (st := []) dX12_cuts_113 zmX12_bits zl_RX12_422 zsX12_bits rfl (Nat.le_of_ble_eq_true rfl) (Nat.le_of_ble_eq_true rfl) hc ?_
      refine ex_step (pc' := 133) dX12_cuts_116 rfl ?_
      rw [h]; exact ex_ret (v := some (.int v2)) ⟨dX12_cuts_133, _, rfl, rfl⟩
  · have h := h.2 c
    refine ex_step (pc' := 39) dX12_cuts_37 rfl ?_
    refine ex_step (pc' := 40) dX12_cuts_39 rfl ?_
    refine ex_step (pc' := 41) (st' := [.int (-1), .int x2, .int x4]) dX12_cuts_40 rfl ?_
    refine ex_step (pc' := 42) dX12_cuts_41 rfl ?_
    refine ex_step (pc' := 43) dX12_cuts_42 rfl ?_
    refine ex_if (pc' := 102) dX12_cuts_43 (by decide) (fun c => ?_) (fun c => ?_)
    · have h := h.1 c
      refine ex_step (pc' := 105) (ls' := [some (.ref 420), some (.int x1), some (.int x2), some (.int x3), some (.int (x4 + 1)), none]) dX12_cuts_102 rfl ?_
      refine ex_step (pc' := 29) dX12_cuts_105 rfl ?_
      exact h
    · have h := h.2 (Classical.not_not.mp c)
      refine ex_step (pc' := 47) dX12_cuts_46 rfl ?_
      refine ex_getr dX12_cuts_47 wf_RX12_144 (ly_a420 hL) rfl (ly_r420_61 hL) ?_
      refine ex_step (pc' := 51) dX12_cuts_50 rfl ?_
      refine ex_step (pc' := 53) dX12_cuts_51 rfl ?_
      refine ex_step (pc' := 54) (st' := [.int (-1), .int x4, .int x2, .ref 462]) dX12_cuts_53 rfl ?_
      refine ex_step (pc' := 55) dX12_cuts_54 rfl ?_
      refine ex_step (pc' := 56) dX12_cuts_55 rfl ?_
      obtain ⟨hv, h⟩ := h
      refine ex_iald dX12_cuts_56 (Or.inl (ly_a462 hL)) hv ?_
      refine ex_if (pc' := 63) dX12_cuts_57 (by decide) (fun c => ?_) (fun c => ?_)
      · have h := h.1 c
        refine ex_step (pc' := 65) dX12_cuts_63 rfl ?_
        obtain ⟨v3, hc, h⟩ := h
        refine ex_callS (as := [.int x4]) (st := []) dX12_cuts_65 zmX12_bits zl_RX12_422 zsX12_bits rfl (Nat.le_of_ble_eq_true rfl) (Nat.le_of_ble_eq_true rfl) hc ?_
        refine ex_step (pc' := 69) dX12_cuts_68 rfl ?_
        obtain ⟨v4, hc, h⟩ := h
        refine ex_callS (as := [.int x3]) (st := [.int v3]) dX12_cuts_69 zmX12_bits zl_RX12_422 zsX12_bits rfl (Nat.le_of_ble_eq_true rfl) (Nat.le_of_ble_eq_true rfl) hc ?_
        refine ex_step (pc' := 73) dX12_cuts_72 rfl ?_
        refine ex_step (pc' := 75) (ls' := [some (.ref 420), some (.int x1), some (.int x2), some (.int x3), some (.int x4), some (.int (v3 - v4))]) dX12_cuts_73 rfl ?_
        refine ex_step (pc' := 77) dX12_cuts_75 rfl ?_
        refine ex_if (pc' := 99) dX12_cuts_77 (by decide) (fun c => ?_) (fun c => ?_)
        · have h := h.1 c
          refine ex_step (pc' := 101) dX12_cuts_99 rfl ?_
          refine ex_step (pc' := 102) (ls' := [some (.ref 420), some (.int x1), some (.int x2), some (.int x4), some (.int x4), some (.int (v3 - v4))]) dX12_cuts_101 rfl ?_
          refine ex_step (pc' := 105) (ls' := [some (.ref 420), some (.int x1), some (.int x2), some (.int x4), some (.int (x4 + 1)), some (.int (v3 - v4))]) dX12_cuts_102 rfl ?_
          refine ex_step (pc' := 29) dX12_cuts_105 rfl ?_
          exact ex_less (ls' := [some (.ref 420), some (.int x1), some (.int x2), some (.int x4), some (.int (x4 + 1)), none]) ⟨rfl, ⟨rfl, ⟨rfl, ⟨rfl, ⟨rfl, trivial⟩⟩⟩⟩⟩ h
        · have h := h.2 c
          refine ex_step (pc' := 82) dX12_cuts_80 rfl ?_
          refine ex_if (pc' := 102) dX12_cuts_82 (by decide) (fun c => ?_) (fun c => ?_)
          · have h := h.1 c
            refine ex_step (pc' := 105) (ls' := [some (.ref 420), some (.int x1), some (.int x2), some (.int x3), some (.int (x4 + 1)), some (.int (v3 - v4))]) dX12_cuts_102 rfl ?_
            refine ex_step (pc' := 29) dX12_cuts_105 rfl ?_
            exact ex_less (ls' := [some (.ref 420), some (.int x1), some (.int x2), some (.int x3), some (.int (x4 + 1)), none]) ⟨rfl, ⟨rfl, ⟨rfl, ⟨rfl, ⟨rfl, trivial⟩⟩⟩⟩⟩ h
          · have h := h.2 (Classical.not_not.mp c)
            refine ex_step (pc' := 86) dX12_cuts_85 rfl ?_
            refine ex_step (pc' := 88) dX12_cuts_86 rfl ?_
            obtain ⟨v5, hc, h⟩ := h
            refine ex_callV (as := [.int x4]) (st := []) (ci := 12) dX12_cuts_88 zmX12_piecesOf zl_RX12_425 ziX12_piecesOf zvX12_piecesOf (by decide) (ly_a420 hL) rfl (Nat.le_of_ble_eq_true rfl) (Nat.le_of_ble_eq_true rfl) hc ?_
            refine ex_step (pc' := 92) dX12_cuts_91 rfl ?_
            refine ex_step (pc' := 93) dX12_cuts_92 rfl ?_
            obtain ⟨v6, hc, h⟩ := h
            refine ex_callV (as := [.int x3]) (st := [.int v5]) (ci := 12) dX12_cuts_93 zmX12_piecesOf zl_RX12_425 ziX12_piecesOf zvX12_piecesOf (by decide) (ly_a420 hL) rfl (Nat.le_of_ble_eq_true rfl) (Nat.le_of_ble_eq_true rfl) hc ?_
            refine ex_icmp (pc' := 102) dX12_cuts_96 (by decide) (fun c => ?_) (fun c => ?_)
            · have h := h.1 c
              refine ex_step (pc' := 105) (ls' := [some (.ref 420), some (.int x1), some (.int x2), some (.int x3), some (.int (x4 + 1)), some (.int (v3 - v4))]) dX12_cuts_102 rfl ?_
              refine ex_step (pc' := 29) dX12_cuts_105 rfl ?_
              exact ex_less (ls' := [some (.ref 420), some (.int x1), some (.int x2), some (.int x3), some (.int (x4 + 1)), none]) ⟨rfl, ⟨rfl, ⟨rfl, ⟨rfl, ⟨rfl, trivial⟩⟩⟩⟩⟩ h
            · have h := h.2 c
              refine ex_step (pc' := 101) dX12_cuts_99 rfl ?_
              refine ex_step (pc' := 102) (ls' := [some (.ref 420), some (.int x1), some (.int x2), some (.int x4), some (.int x4), some (.int (v3 - v4))]) dX12_cuts_101 rfl ?_
              refine ex_step (pc' := 105) (ls' := [some (.ref 420), some (.int x1), some (.int x2), some (.int x4), some (.int (x4 + 1)), some (.int (v3 - v4))]) dX12_cuts_102 rfl ?_
              refine ex_step (pc' := 29) dX12_cuts_105 rfl ?_
              exact ex_less (ls' := [some (.ref 420), some (.int x1), some (.int x2), some (.int x4), some (.int (x4 + 1)), none]) ⟨rfl, ⟨rfl, ⟨rfl, ⟨rfl, ⟨rfl, trivial⟩⟩⟩⟩⟩ h
      · have h := h.2 (Classical.not_not.mp c)
        refine ex_step (pc' := 102) dX12_cuts_60 rfl ?_
        refine ex_step (pc' := 105) (ls' := [some (.ref 420), some (.int x1), some (.int x2), some (.int x3), some (.int (x4 + 1)), none]) dX12_cuts_102 rfl ?_
        refine ex_step (pc' := 29) dX12_cuts_105 rfl ?_
        exact h
set_option maxHeartbeats 4000000 in
theorem BX12_nextOrder_0 {d : Nat} {Z : zZ} {I : zI} {J : zJ} {o : zO} {t u : Nat} (x1 : Int32) (hL : zLY Z t u)  (h : zE d kX12_nextOrder 4 [some (.ref 420), some (.int x1), some (.int (x1 - 2)), none, none, none, none] [] Z I J o) : zE d kX12_nextOrder 0 [some (.ref 420), some (.int x1), none, none, none, none, none] [] Z I J o := by
  refine ex_step (pc' := 1) dX12_nextOrder_0 rfl ?_
  refine ex_step (pc' := 2) (st' := [.int 2, .int x1]) dX12_nextOrder_1 rfl ?_
  refine ex_step (pc' := 3) dX12_nextOrder_2 rfl ?_
  refine ex_step (pc' := 4) (ls' := [some (.ref 420), some (.int x1), some (.int (x1 - 2)), none, none, none, none]) dX12_nextOrder_3 rfl ?_
  exact h
set_option maxHeartbeats 4000000 in
theorem BX12_nextOrder_4 {d : Nat} {Z : zZ} {I : zI} {J : zJ} {o : zO} {t u : Nat} (x1 : Int32) (x2 : Int32) (hL : zLY Z t u)  (h : ((x2 < 0 → ((0 ≤ x2 → zE d kX12_nextOrder 41 [some (.ref 420), some (.int x1), some (.int x2), some (.int (x1 - 1)), none, none, none] [] Z I J o) ∧ (¬ 0 ≤ x2 → o = (some (.int 0), Z, I, J)))) ∧ (¬ x2 < 0 → (vp_in x2 6 ∧ (vp_in (x2 + 1) 6 ∧ (((I 463 x2.toNatClampNeg) ≤ (I 463 (x2 + 1).toNatClampNeg) → ((0 ≤ x2 → zE d kX12_nextOrder 41 [some (.ref 420), some (.int x1), some (.int x2), some (.int (x1 - 1)), none, none, none] [] Z I J o) ∧ (¬ 0 ≤ x2 → o = (some (.int 0), Z, I, J)))) ∧ (¬ (I 463 x2.toNatClampNeg) ≤ (I 463 (x2 + 1).toNatClampNeg) → zE d kX12_nextOrder 4 [some (.ref 420), some (.int x1), some (.int (x2 + (-1))), none, none, none, none] [] Z I J o))))))) : zE d kX12_nextOrder 4 [some (.ref 420), some (.int x1), some (.int x2), none, none, none, none] [] Z I J o := by
  refine ex_step (pc' := 5) dX12_nextOrder_4 rfl ?_
  refine ex_if (pc' := 31) dX12_nextOrder_5 (by decide) (fun c => ?_) (fun c => ?_)
  · have h := h.1 c
    refine ex_step (pc' := 32) dX12_nextOrder_31 rfl ?_
    refine ex_if (pc' := 37) dX12_nextOrder_32 (by decide) (fun c => ?_) (fun c => ?_)
    · have h := h.1 c
      refine ex_step (pc' := 38) dX12_nextOrder_37 rfl ?_
      refine ex_step (pc' := 39) (st' := [.int 1, .int x1]) dX12_nextOrder_38 rfl ?_
      refine ex_step (pc' := 40) dX12_nextOrder_39 rfl ?_
      refine ex_step (pc' := 41) (ls' := [some (.ref 420), some (.int x1), some (.int x2), some (.int (x1 - 1)), none, none, none]) dX12_nextOrder_40 rfl ?_
      exact h
    · have h := h.2 c
      refine ex_step (pc' := 36) (st' := [.int 0]) dX12_nextOrder_35 rfl ?_
      rw [h]; exact ex_ret (v := some (.int 0)) ⟨dX12_nextOrder_36, _, rfl, rfl⟩
  · have h := h.2 c
    refine ex_step (pc' := 9) dX12_nextOrder_8 rfl ?_
    refine ex_getr dX12_nextOrder_9 wf_RX12_147 (ly_a420 hL) rfl (ly_r420_62 hL) ?_
    refine ex_step (pc' := 13) dX12_nextOrder_12 rfl ?_
    obtain ⟨hv, h⟩ := h
    refine ex_iald dX12_nextOrder_13 (Or.inl (ly_a463 hL)) hv ?_
    refine ex_step (pc' := 15) dX12_nextOrder_14 rfl ?_
    refine ex_getr dX12_nextOrder_15 wf_RX12_147 (ly_a420 hL) rfl (ly_r420_62 hL) ?_
    refine ex_step (pc' := 19) dX12_nextOrder_18 rfl ?_
    refine ex_step (pc' := 20) (st' := [.int 1, .int x2, .ref 463, .int (I 463 x2.toNatClampNeg)]) dX12_nextOrder_19 rfl ?_
    refine ex_step (pc' := 21) dX12_nextOrder_20 rfl ?_
    obtain ⟨hv, h⟩ := h
    refine ex_iald dX12_nextOrder_21 (Or.inl (ly_a463 hL)) hv ?_
    refine ex_icmp (pc' := 31) dX12_nextOrder_22 (by decide) (fun c => ?_) (fun c => ?_)
    · have h := h.1 c
      refine ex_step (pc' := 32) dX12_nextOrder_31 rfl ?_
      refine ex_if (pc' := 37) dX12_nextOrder_32 (by decide) (fun c => ?_) (fun c => ?_)
      · have h := h.1 c
        refine ex_step (pc' := 38) dX12_nextOrder_37 rfl ?_
        refine ex_step (pc' := 39) (st' := [.int 1, .int x1]) dX12_nextOrder_38 rfl ?_
        refine ex_step (pc' := 40) dX12_nextOrder_39 rfl ?_
        refine ex_step (pc' := 41) (ls' := [some (.ref 420), some (.int x1), some (.int x2), some (.int (x1 - 1)), none, none, none]) dX12_nextOrder_40 rfl ?_
        exact h
      · have h := h.2 c
        refine ex_step (pc' := 36) (st' := [.int 0]) dX12_nextOrder_35 rfl ?_
        rw [h]; exact ex_ret (v := some (.int 0)) ⟨dX12_nextOrder_36, _, rfl, rfl⟩
    · have h := h.2 c
      refine ex_step (pc' := 28) (ls' := [some (.ref 420), some (.int x1), some (.int (x2 + (-1))), none, none, none, none]) dX12_nextOrder_25 rfl ?_
      refine ex_step (pc' := 4) dX12_nextOrder_28 rfl ?_
      exact h
set_option maxHeartbeats 4000000 in
theorem BX12_nextOrder_41 {d : Nat} {Z : zZ} {I : zI} {J : zJ} {o : zO} {t u : Nat} (x1 : Int32) (x2 : Int32) (x3 : Int32) (hL : zLY Z t u)  (h : (vp_in x3 6 ∧ (vp_in x2 6 ∧ (((I 463 x2.toNatClampNeg) ≤ (I 463 x3.toNatClampNeg) → (vp_in x2 6 ∧ (vp_in x3 6 ∧ (vp_in x2 6 ∧ (∀ I1 : zI, I1 = zu I 463 x2.toNatClampNeg (I 463 x3.toNatClampNeg) → (vp_in x3 6 ∧ (∀ I2 : zI, I2 = zu I1 463 x3.toNatClampNeg (I 463 x2.toNatClampNeg) → zE d kX12_nextOrder 100 [some (.ref 420), none, none, none, none, some (.int (x2 + 1)), some (.int (x1 - 1))] [] Z I2 J o))))))) ∧ (¬ (I 463 x2.toNatClampNeg) ≤ (I 463 x3.toNatClampNeg) → zE d kX12_nextOrder 41 [some (.ref 420), some (.int x1), some (.int x2), some (.int (x3 + (-1))), none, none, none] [] Z I J o))))) : zE d kX12_nextOrder 41 [some (.ref 420), some (.int x1), some (.int x2), some (.int x3), none, none, none] [] Z I J o := by
  refine ex_step (pc' := 42) dX12_nextOrder_41 rfl ?_
  refine ex_getr dX12_nextOrder_42 wf_RX12_147 (ly_a420 hL) rfl (ly_r420_62 hL) ?_
  refine ex_step (pc' := 46) dX12_nextOrder_45 rfl ?_
  obtain ⟨hv, h⟩ := h
  refine ex_iald dX12_nextOrder_46 (Or.inl (ly_a463 hL)) hv ?_
  refine ex_step (pc' := 48) dX12_nextOrder_47 rfl ?_
  refine ex_getr dX12_nextOrder_48 wf_RX12_147 (ly_a420 hL) rfl (ly_r420_62 hL) ?_
  refine ex_step (pc' := 52) dX12_nextOrder_51 rfl ?_
  obtain ⟨hv, h⟩ := h
  refine ex_iald dX12_nextOrder_52 (Or.inl (ly_a463 hL)) hv ?_
  refine ex_icmp (pc' := 62) dX12_nextOrder_53 (by decide) (fun c => ?_) (fun c => ?_)
  · have h := h.1 c
    refine ex_step (pc' := 63) dX12_nextOrder_62 rfl ?_
    refine ex_getr dX12_nextOrder_63 wf_RX12_147 (ly_a420 hL) rfl (ly_r420_62 hL) ?_
    refine ex_step (pc' := 67) dX12_nextOrder_66 rfl ?_
    obtain ⟨hv, h⟩ := h
    refine ex_iald dX12_nextOrder_67 (Or.inl (ly_a463 hL)) hv ?_
    refine ex_step (pc' := 70) (ls' := [some (.ref 420), some (.int x1), some (.int x2), some (.int x3), some (.int (I 463 x2.toNatClampNeg)), none, none]) dX12_nextOrder_68 rfl ?_
    refine ex_step (pc' := 71) dX12_nextOrder_70 rfl ?_
    refine ex_getr dX12_nextOrder_71 wf_RX12_147 (ly_a420 hL) rfl (ly_r420_62 hL) ?_
    refine ex_step (pc' := 75) dX12_nextOrder_74 rfl ?_
    refine ex_step (pc' := 76) dX12_nextOrder_75 rfl ?_
    refine ex_getr dX12_nextOrder_76 wf_RX12_147 (ly_a420 hL) rfl (ly_r420_62 hL) ?_
    refine ex_step (pc' := 80) dX12_nextOrder_79 rfl ?_
    obtain ⟨hv, h⟩ := h
    refine ex_iald dX12_nextOrder_80 (Or.inl (ly_a463 hL)) hv ?_
    obtain ⟨hv, h⟩ := h
    refine ex_iastN dX12_nextOrder_81 (ly_a463 hL) hv (fun I1 eI1 => ?_)
    have h := h I1 eI1
    refine ex_step (pc' := 83) dX12_nextOrder_82 rfl ?_
    refine ex_getr dX12_nextOrder_83 wf_RX12_147 (ly_a420 hL) rfl (ly_r420_62 hL) ?_
    refine ex_step (pc' := 87) dX12_nextOrder_86 rfl ?_
    refine ex_step (pc' := 89) dX12_nextOrder_87 rfl ?_
    obtain ⟨hv, h⟩ := h
    refine ex_iastN dX12_nextOrder_89 (ly_a463 hL) hv (fun I2 eI2 => ?_)
    have h := h I2 eI2
    refine ex_step (pc' := 91) dX12_nextOrder_90 rfl ?_
    refine ex_step (pc' := 92) (st' := [.int 1, .int x2]) dX12_nextOrder_91 rfl ?_
    refine ex_step (pc' := 93) dX12_nextOrder_92 rfl ?_
    refine ex_step (pc' := 95) (ls' := [some (.ref 420), some (.int x1), some (.int x2), some (.int x3), some (.int (I 463 x2.toNatClampNeg)), some (.int (x2 + 1)), none]) dX12_nextOrder_93 rfl ?_
    refine ex_step (pc' := 96) dX12_nextOrder_95 rfl ?_
    refine ex_step (pc' := 97) (st' := [.int 1, .int x1]) dX12_nextOrder_96 rfl ?_
    refine ex_step (pc' := 98) dX12_nextOrder_97 rfl ?_
    refine ex_step (pc' := 100) (ls' := [some (.ref 420), some (.int x1), some (.int x2), some (.int x3), some (.int (I 463 x2.toNatClampNeg)), some (.int (x2 + 1)), some (.int (x1 - 1))]) dX12_nextOrder_98 rfl ?_
    exact ex_less (ls' := [some (.ref 420), none, none, none, none, some (.int (x2 + 1)), some (.int (x1 - 1))]) ⟨rfl, ⟨rfl, ⟨rfl, trivial⟩⟩⟩ h
  · have h := h.2 c
    refine ex_step (pc' := 59) (ls' := [some (.ref 420), some (.int x1), some (.int x2), some (.int (x3 + (-1))), none, none, none]) dX12_nextOrder_56 rfl ?_
    refine ex_step (pc' := 41) dX12_nextOrder_59 rfl ?_
    exact h
set_option maxHeartbeats 4000000 in
theorem BX12_nextOrder_100 {d : Nat} {Z : zZ} {I : zI} {J : zJ} {o : zO} {t u : Nat} (x5 : Int32) (x6 : Int32) (hL : zLY Z t u)  (h : ((x6 ≤ x5 → o = (some (.int 1), Z, I, J)) ∧ (¬ x6 ≤ x5 → (vp_in x5 6 ∧ (vp_in x6 6 ∧ (vp_in x5 6 ∧ (∀ I1 : zI, I1 = zu I 463 x5.toNatClampNeg (I 463 x6.toNatClampNeg) → (vp_in x6 6 ∧ (∀ I2 : zI, I2 = zu I1 463 x6.toNatClampNeg (I 463 x5.toNatClampNeg) → zE d kX12_nextOrder 100 [some (.ref 420), none, none, none, none, some (.int (x5 + 1)), some (.int (x6 + (-1)))] [] Z I2 J o))))))))) : zE d kX12_nextOrder 100 [some (.ref 420), none, none, none, none, some (.int x5), some (.int x6)] [] Z I J o := by
  refine ex_step (pc' := 102) dX12_nextOrder_100 rfl ?_
  refine ex_step (pc' := 104) dX12_nextOrder_102 rfl ?_
  refine ex_icmp (pc' := 148) dX12_nextOrder_104 (by decide) (fun c => ?_) (fun c => ?_)
  · have h := h.1 c
    refine ex_step (pc' := 149) (st' := [.int 1]) dX12_nextOrder_148 rfl ?_
    rw [h]; exact ex_ret (v := some (.int 1)) ⟨dX12_nextOrder_149, _, rfl, rfl⟩
  · have h := h.2 c
    refine ex_step (pc' := 108) dX12_nextOrder_107 rfl ?_
    refine ex_getr dX12_nextOrder_108 wf_RX12_147 (ly_a420 hL) rfl (ly_r420_62 hL) ?_
    refine ex_step (pc' := 113) dX12_nextOrder_111 rfl ?_
    obtain ⟨hv, h⟩ := h
    refine ex_iald dX12_nextOrder_113 (Or.inl (ly_a463 hL)) hv ?_
    refine ex_step (pc' := 116) (ls' := [some (.ref 420), none, none, none, some (.int (I 463 x5.toNatClampNeg)), some (.int x5), some (.int x6)]) dX12_nextOrder_114 rfl ?_
    refine ex_step (pc' := 117) dX12_nextOrder_116 rfl ?_
    refine ex_getr dX12_nextOrder_117 wf_RX12_147 (ly_a420 hL) rfl (ly_r420_62 hL) ?_
    refine ex_step (pc' := 122) dX12_nextOrder_120 rfl ?_
    refine ex_step (pc' := 123) dX12_nextOrder_122 rfl ?_
    refine ex_getr dX12_nextOrder_123 wf_RX12_147 (ly_a420 hL) rfl (ly_r420_62 hL) ?_
    refine ex_step (pc' := 128) dX12_nextOrder_126 rfl ?_
    obtain ⟨hv, h⟩ := h
    refine ex_iald dX12_nextOrder_128 (Or.inl (ly_a463 hL)) hv ?_
    obtain ⟨hv, h⟩ := h
    refine ex_iastN dX12_nextOrder_129 (ly_a463 hL) hv (fun I1 eI1 => ?_)
    have h := h I1 eI1
    refine ex_step (pc' := 131) dX12_nextOrder_130 rfl ?_
    refine ex_getr dX12_nextOrder_131 wf_RX12_147 (ly_a420 hL) rfl (ly_r420_62 hL) ?_
    refine ex_step (pc' := 136) dX12_nextOrder_134 rfl ?_
    refine ex_step (pc' := 138) dX12_nextOrder_136 rfl ?_
    obtain ⟨hv, h⟩ := h
    refine ex_iastN dX12_nextOrder_138 (ly_a463 hL) hv (fun I2 eI2 => ?_)
    have h := h I2 eI2
    refine ex_step (pc' := 142) (ls' := [some (.ref 420), none, none, none, some (.int (I 463 x5.toNatClampNeg)), some (.int (x5 + 1)), some (.int x6)]) dX12_nextOrder_139 rfl ?_
    refine ex_step (pc' := 145) (ls' := [some (.ref 420), none, none, none, some (.int (I 463 x5.toNatClampNeg)), some (.int (x5 + 1)), some (.int (x6 + (-1)))]) dX12_nextOrder_142 rfl ?_
    refine ex_step (pc' := 100) dX12_nextOrder_145 rfl ?_
    exact ex_less (ls' := [some (.ref 420), none, none, none, none, some (.int (x5 + 1)), some (.int (x6 + (-1)))]) ⟨rfl, ⟨rfl, ⟨rfl, trivial⟩⟩⟩ h
set_option maxHeartbeats 4000000 in
theorem BX12_wayFrom_0 {d : Nat} {Z : zZ} {I : zI} {J : zJ} {o : zO} {t u : Nat} (x1 : Int32) (x2 : Int32) (x3 : Int32) (hL : zLY Z t u)  (h : (vp_in (((7 : Int32) * (I 420 18)) + x1) 14 ∧ (∀ y1 : Int32, y1 = (I 435 (((7 : Int32) * (I 420 18)) + x1).toNatClampNeg) → zE (d + 1) kX12_wayFrom 19 [some (.ref 420), some (.int x1), some (.int x2), some (.int x3), some (.int y1), some (.int 0), none, none, none, none, none, none] [] Z I J o))) : zE (d + 1) kX12_wayFrom 0 [some (.ref 420), some (.int x1), some (.int x2), some (.int x3), none, none, none, none, none, none, none, none] [] Z I J o := by
  refine ex_step (pc' := 1) dX12_wayFrom_0 rfl ?_
  refine ex_getr dX12_wayFrom_1 wf_RX12_61 (ly_a420 hL) rfl (ly_r420_28 hL) ?_
  refine ex_step (pc' := 6) (st' := [.int 7, .ref 435]) dX12_wayFrom_4 rfl ?_
  refine ex_step (pc' := 7) dX12_wayFrom_6 rfl ?_
  refine ex_geti dX12_wayFrom_7 wf_RX12_258 (ly_a420 hL) rfl ?_
  refine ex_step (pc' := 11) dX12_wayFrom_10 rfl ?_
  refine ex_step (pc' := 12) dX12_wayFrom_11 rfl ?_
  refine ex_step (pc' := 13) dX12_wayFrom_12 rfl ?_
  obtain ⟨hv, h⟩ := h
  refine ex_iald dX12_wayFrom_13 (Or.inl (ly_a435 hL)) hv ?_
  refine ex_topi (fun y1 ey1 => ?_)
  have h := h y1 ey1
  refine ex_step (pc' := 16) (ls' := [some (.ref 420), some (.int x1), some (.int x2), some (.int x3), some (.int y1), none, none, none, none, none, none, none]) dX12_wayFrom_14 rfl ?_
  refine ex_step (pc' := 17) (st' := [.int 0]) dX12_wayFrom_16 rfl ?_
  refine ex_step (pc' := 19) (ls' := [some (.ref 420), some (.int x1), some (.int x2), some (.int x3), some (.int y1), some (.int 0), none, none, none, none, none, none]) dX12_wayFrom_17 rfl ?_
  exact h
set_option maxHeartbeats 4000000 in
theorem BX12_wayFrom_19 {d : Nat} {Z : zZ} {I : zI} {J : zJ} {o : zO} {t u : Nat} (x1 : Int32) (x2 : Int32) (x3 : Int32) (x4 : Int32) (x5 : Int32) (hL : zLY Z t u)  (h : ((x4 ≤ x5 → zE (d + 1) kX12_wayFrom 47 [some (.ref 420), some (.int x1), some (.int x2), some (.int x3), some (.int x4), some (.int (-1)), some (.int 1), none, none, none, none, none] [] Z I J o) ∧ (¬ x4 ≤ x5 → (vp_in x5 6 ∧ (∀ I1 : zI, I1 = zu I 463 x5.toNatClampNeg x5 → zE (d + 1) kX12_wayFrom 19 [some (.ref 420), some (.int x1), some (.int x2), some (.int x3), some (.int x4), some (.int (x5 + 1)), none, none, none, none, none, none] [] Z I1 J o))))) : zE (d + 1) kX12_wayFrom 19 [some (.ref 420), some (.int x1), some (.int x2), some (.int x3), some (.int x4), some (.int x5), none, none, none, none, none, none] [] Z I J o := by
  refine ex_step (pc' := 21) dX12_wayFrom_19 rfl ?_
  refine ex_step (pc' := 23) dX12_wayFrom_21 rfl ?_
  refine ex_icmp (pc' := 41) dX12_wayFrom_23 (by decide) (fun c => ?_) (fun c => ?_)
  · have h := h.1 c
    refine ex_step (pc' := 42) (st' := [.int (-1)]) dX12_wayFrom_41 rfl ?_
    refine ex_step (pc' := 44) (ls' := [some (.ref 420), some (.int x1), some (.int x2), some (.int x3), some (.int x4), some (.int (-1)), none, none, none, none, none, none]) dX12_wayFrom_42 rfl ?_
    refine ex_step (pc' := 45) (st' := [.int 1]) dX12_wayFrom_44 rfl ?_
    refine ex_step (pc' := 47) (ls' := [some (.ref 420), some (.int x1), some (.int x2), some (.int x3), some (.int x4), some (.int (-1)), some (.int 1), none, none, none, none, none]) dX12_wayFrom_45 rfl ?_
    exact h
  · have h := h.2 c
    refine ex_step (pc' := 27) dX12_wayFrom_26 rfl ?_
    refine ex_getr dX12_wayFrom_27 wf_RX12_147 (ly_a420 hL) rfl (ly_r420_62 hL) ?_
    refine ex_step (pc' := 32) dX12_wayFrom_30 rfl ?_
    refine ex_step (pc' := 34) dX12_wayFrom_32 rfl ?_
    obtain ⟨hv, h⟩ := h
    refine ex_iastN dX12_wayFrom_34 (ly_a463 hL) hv (fun I1 eI1 => ?_)
    have h := h I1 eI1
    refine ex_step (pc' := 38) (ls' := [some (.ref 420), some (.int x1), some (.int x2), some (.int x3), some (.int x4), some (.int (x5 + 1)), none, none, none, none, none, none]) dX12_wayFrom_35 rfl ?_
    refine ex_step (pc' := 19) dX12_wayFrom_38 rfl ?_
    exact h
set_option maxHeartbeats 4000000 in
theorem BX12_wayFrom_47 {d : Nat} {Z : zZ} {I : zI} {J : zJ} {o : zO} {t u : Nat} (x1 : Int32) (x2 : Int32) (x3 : Int32) (x4 : Int32) (x5 : Int32) (x6 : Int32) (hL : zLY Z t u)  (h : ((x6 = 0 → o = (some (.int x5), Z, I, J)) ∧ (¬ x6 = 0 → zE (d + 1) kX12_wayFrom 64 [some (.ref 420), some (.int x1), some (.int x2), some (.int x3), some (.int x4), some (.int x5), none, some (.int 0), some (.int x2), some (.int x3), some (.int 0), none] [] Z I J o))) : zE (d + 1) kX12_wayFrom 47 [some (.ref 420), some (.int x1), some (.int x2), some (.int x3), some (.int x4), some (.int x5), some (.int x6), none, none, none, none, none] [] Z I J o := by
  refine ex_step (pc' := 49) dX12_wayFrom_47 rfl ?_
  refine ex_if (pc' := 204) dX12_wayFrom_49 (by decide) (fun c => ?_) (fun c => ?_)
  · have h := h.1 c
    refine ex_step (pc' := 206) dX12_wayFrom_204 rfl ?_
    rw [h]; exact ex_ret (v := some (.int x5)) ⟨dX12_wayFrom_206, _, rfl, rfl⟩
  · have h := h.2 c
    refine ex_step (pc' := 53) (st' := [.int 0]) dX12_wayFrom_52 rfl ?_
    refine ex_step (pc' := 55) (ls' := [some (.ref 420), some (.int x1), some (.int x2), some (.int x3), some (.int x4), some (.int x5), some (.int x6), some (.int 0), none, none, none, none]) dX12_wayFrom_53 rfl ?_
    refine ex_step (pc' := 56) dX12_wayFrom_55 rfl ?_
    refine ex_step (pc' := 58) (ls' := [some (.ref 420), some (.int x1), some (.int x2), some (.int x3), some (.int x4), some (.int x5), some (.int x6), some (.int 0), some (.int x2), none, none, none]) dX12_wayFrom_56 rfl ?_
    refine ex_step (pc' := 59) dX12_wayFrom_58 rfl ?_
    refine ex_step (pc' := 61) (ls' := [some (.ref 420), some (.int x1), some (.int x2), some (.int x3), some (.int x4), some (.int x5), some (.int x6), some (.int 0), some (.int x2), some (.int x3), none, none]) dX12_wayFrom_59 rfl ?_
    refine ex_step (pc' := 62) (st' := [.int 0]) dX12_wayFrom_61 rfl ?_
    refine ex_step (pc' := 64) (ls' := [some (.ref 420), some (.int x1), some (.int x2), some (.int x3), some (.int x4), some (.int x5), some (.int x6), some (.int 0), some (.int x2), some (.int x3), some (.int 0), none]) dX12_wayFrom_62 rfl ?_
    exact ex_less (ls' := [some (.ref 420), some (.int x1), some (.int x2), some (.int x3), some (.int x4), some (.int x5), none, some (.int 0), some (.int x2), some (.int x3), some (.int 0), none]) ⟨rfl, ⟨rfl, ⟨rfl, ⟨rfl, ⟨rfl, ⟨rfl, ⟨rfl, ⟨rfl, ⟨rfl, ⟨rfl, trivial⟩⟩⟩⟩⟩⟩⟩⟩⟩⟩ h
set_option maxHeartbeats 4000000 in
theorem BX12_wayFrom_64 {d : Nat} {Z : zZ} {I : zI} {J : zJ} {o : zO} {t u : Nat} (x1 : Int32) (x2 : Int32) (x3 : Int32) (x4 : Int32) (x5 : Int32) (x7 : Int32) (x8 : Int32) (x9 : Int32) (x10 : Int32) (hL : zLY Z t u)  (h : ((x4 ≤ x10 → ((x5 < 0 → zE (d + 1) kX12_wayFrom 166 [some (.ref 420), some (.int x1), some (.int x2), some (.int x3), some (.int x4), some (.int x7), none, none, none, none, some (.int 0), none] [] Z I J o) ∧ (¬ x5 < 0 → ((x5 ≤ x7 → (∃ (v1 : Int32) (I2 : zI), zE d kX12_nextOrder 0 [some (.ref 420), some (.int x4), none, none, none, none, none] [] Z I J (some (.int v1), Z, I2, J) ∧ zE (d + 1) kX12_wayFrom 47 [some (.ref 420), some (.int x1), some (.int x2), some (.int x3), some (.int x4), some (.int x5), some (.int v1), none, none, none, none, none] [] Z I2 J o)) ∧ (¬ x5 ≤ x7 → zE (d + 1) kX12_wayFrom 166 [some (.ref 420), some (.int x1), some (.int x2), some (.int x3), some (.int x4), some (.int x7), none, none, none, none, some (.int 0), none] [] Z I J o))))) ∧ (¬ x4 ≤ x10 → (vp_in x10 6 ∧ (∀ y3 : Int32, y3 = ((((42 : Int32) * (I 420 18)) + ((6 : Int32) * x1)) + (I 463 x10.toNatClampNeg)) → (vp_in y3 84 ∧ (vp_in y3 84 ∧ (∀ y4 : Int32, y4 = (x7 + ((zap x8 (I 436 y3.toNatClampNeg)) + (zap x9 (I 437 y3.toNatClampNeg)))) → (vp_in y3 84 ∧ (vp_in y3 84 ∧ zE (d + 1) kX12_wayFrom 64 [some (.ref 420), some (.int x1), some (.int x2), some (.int x3), some (.int x4), some (.int x5), none, some (.int y4), some (.int (I 436 y3.toNatClampNeg)), some (.int (I 437 y3.toNatClampNeg)), some (.int (x10 + 1)), none] [] Z I J o)))))))))) : zE (d + 1) kX12_wayFrom 64 [some (.ref 420), some (.int x1), some (.int x2), some (.int x3), some (.int x4), some (.int x5), none, some (.int x7), some (.int x8), some (.int x9), some (.int x10), none] [] Z I J o := by
  refine ex_step (pc' := 66) dX12_wayFrom_64 rfl ?_
  refine ex_step (pc' := 68) dX12_wayFrom_66 rfl ?_
  refine ex_icmp (pc' := 147) dX12_wayFrom_68 (by decide) (fun c => ?_) (fun c => ?_)
  · have h := h.1 c
    refine ex_step (pc' := 149) dX12_wayFrom_147 rfl ?_
    refine ex_if (pc' := 159) dX12_wayFrom_149 (by decide) (fun c => ?_) (fun c => ?_)
    · have h := h.1 c
      refine ex_step (pc' := 161) dX12_wayFrom_159 rfl ?_
      refine ex_step (pc' := 163) (ls' := [some (.ref 420), some (.int x1), some (.int x2), some (.int x3), some (.int x4), some (.int x7), none, some (.int x7), some (.int x8), some (.int x9), some (.int x10), none]) dX12_wayFrom_161 rfl ?_
      refine ex_step (pc' := 164) (st' := [.int 0]) dX12_wayFrom_163 rfl ?_
      refine ex_step (pc' := 166) (ls' := [some (.ref 420), some (.int x1), some (.int x2), some (.int x3), some (.int x4), some (.int x7), none, some (.int x7), some (.int x8), some (.int x9), some (.int 0), none]) dX12_wayFrom_164 rfl ?_
      exact ex_less (ls' := [some (.ref 420), some (.int x1), some (.int x2), some (.int x3), some (.int x4), some (.int x7), none, none, none, none, some (.int 0), none]) ⟨rfl, ⟨rfl, ⟨rfl, ⟨rfl, ⟨rfl, ⟨rfl, ⟨rfl, trivial⟩⟩⟩⟩⟩⟩⟩ h
    · have h := h.2 c
      refine ex_step (pc' := 154) dX12_wayFrom_152 rfl ?_
      refine ex_step (pc' := 156) dX12_wayFrom_154 rfl ?_
      refine ex_icmp (pc' := 193) dX12_wayFrom_156 (by decide) (fun c => ?_) (fun c => ?_)
      · have h := h.1 c
        refine ex_step (pc' := 194) dX12_wayFrom_193 rfl ?_
        refine ex_step (pc' := 196) dX12_wayFrom_194 rfl ?_
        obtain ⟨v1, I2, hc, h⟩ := h
        refine ex_callV (as := [.int x4]) (st := []) (ci := 12) dX12_wayFrom_196 zmX12_nextOrder zl_RX12_428 ziX12_nextOrder zvX12_nextOrder (by decide) (ly_a420 hL) rfl (Nat.le_of_ble_eq_true rfl) (Nat.le_of_ble_eq_true rfl) hc ?_
        refine ex_step (pc' := 201) (ls' := [some (.ref 420), some (.int x1), some (.int x2), some (.int x3), some (.int x4), some (.int x5), some (.int v1), some (.int x7), some (.int x8), some (.int x9), some (.int x10), none]) dX12_wayFrom_199 rfl ?_
        refine ex_step (pc' := 47) dX12_wayFrom_201 rfl ?_
        exact ex_less (ls' := [some (.ref 420), some (.int x1), some (.int x2), some (.int x3), some (.int x4), some (.int x5), some (.int v1), none, none, none, none, none]) ⟨rfl, ⟨rfl, ⟨rfl, ⟨rfl, ⟨rfl, ⟨rfl, ⟨rfl, trivial⟩⟩⟩⟩⟩⟩⟩ h
      · have h := h.2 c
        refine ex_step (pc' := 161) dX12_wayFrom_159 rfl ?_
        refine ex_step (pc' := 163) (ls' := [some (.ref 420), some (.int x1), some (.int x2), some (.int x3), some (.int x4), some (.int x7), none, some (.int x7), some (.int x8), some (.int x9), some (.int x10), none]) dX12_wayFrom_161 rfl ?_
        refine ex_step (pc' := 164) (st' := [.int 0]) dX12_wayFrom_163 rfl ?_
        refine ex_step (pc' := 166) (ls' := [some (.ref 420), some (.int x1), some (.int x2), some (.int x3), some (.int x4), some (.int x7), none, some (.int x7), some (.int x8), some (.int x9), some (.int 0), none]) dX12_wayFrom_164 rfl ?_
        exact ex_less (ls' := [some (.ref 420), some (.int x1), some (.int x2), some (.int x3), some (.int x4), some (.int x7), none, none, none, none, some (.int 0), none]) ⟨rfl, ⟨rfl, ⟨rfl, ⟨rfl, ⟨rfl, ⟨rfl, ⟨rfl, trivial⟩⟩⟩⟩⟩⟩⟩ h
  · have h := h.2 c
    refine ex_step (pc' := 73) (st' := [.int 42]) dX12_wayFrom_71 rfl ?_
    refine ex_step (pc' := 74) dX12_wayFrom_73 rfl ?_
    refine ex_geti dX12_wayFrom_74 wf_RX12_258 (ly_a420 hL) rfl ?_
    refine ex_step (pc' := 78) dX12_wayFrom_77 rfl ?_
    refine ex_step (pc' := 80) (st' := [.int 6, .int ((42 : Int32) * (I 420 18))]) dX12_wayFrom_78 rfl ?_
    refine ex_step (pc' := 81) dX12_wayFrom_80 rfl ?_
    refine ex_step (pc' := 82) dX12_wayFrom_81 rfl ?_
    refine ex_step (pc' := 83) dX12_wayFrom_82 rfl ?_
    refine ex_step (pc' := 84) dX12_wayFrom_83 rfl ?_
    refine ex_getr dX12_wayFrom_84 wf_RX12_147 (ly_a420 hL) rfl (ly_r420_62 hL) ?_
    refine ex_step (pc' := 89) dX12_wayFrom_87 rfl ?_
    obtain ⟨hv, h⟩ := h
    refine ex_iald dX12_wayFrom_89 (Or.inl (ly_a463 hL)) hv ?_
    refine ex_step (pc' := 91) dX12_wayFrom_90 rfl ?_
    refine ex_topi (fun y3 ey3 => ?_)
    have h := h y3 ey3
    refine ex_step (pc' := 93) (ls' := [some (.ref 420), some (.int x1), some (.int x2), some (.int x3), some (.int x4), some (.int x5), none, some (.int x7), some (.int x8), some (.int x9), some (.int x10), some (.int y3)]) dX12_wayFrom_91 rfl ?_
    refine ex_step (pc' := 95) dX12_wayFrom_93 rfl ?_
    refine ex_step (pc' := 97) dX12_wayFrom_95 rfl ?_
    refine ex_step (pc' := 98) dX12_wayFrom_97 rfl ?_
    refine ex_getr dX12_wayFrom_98 wf_RX12_64 (ly_a420 hL) rfl (ly_r420_29 hL) ?_
    refine ex_step (pc' := 103) dX12_wayFrom_101 rfl ?_
    obtain ⟨hv, h⟩ := h
    refine ex_iald dX12_wayFrom_103 (Or.inl (ly_a436 hL)) hv ?_
    refine ex_callS (as := [.int x8, .int (I 436 y3.toNatClampNeg)]) (st := [.int x7]) dX12_wayFrom_104 zmX12_apart zl_RX12_400 zsX12_apart rfl (Nat.le_of_ble_eq_true rfl) (Nat.le_of_ble_eq_true rfl) M_apart ?_
    refine ex_step (pc' := 109) dX12_wayFrom_107 rfl ?_
    refine ex_step (pc' := 110) dX12_wayFrom_109 rfl ?_
    refine ex_getr dX12_wayFrom_110 wf_RX12_67 (ly_a420 hL) rfl (ly_r420_30 hL) ?_
    refine ex_step (pc' := 115) dX12_wayFrom_113 rfl ?_
    obtain ⟨hv, h⟩ := h
    refine ex_iald dX12_wayFrom_115 (Or.inl (ly_a437 hL)) hv ?_
    refine ex_callS (as := [.int x9, .int (I 437 y3.toNatClampNeg)]) (st := [.int (zap x8 (I 436 y3.toNatClampNeg)), .int x7]) dX12_wayFrom_116 zmX12_apart zl_RX12_400 zsX12_apart rfl (Nat.le_of_ble_eq_true rfl) (Nat.le_of_ble_eq_true rfl) M_apart ?_
    refine ex_step (pc' := 120) dX12_wayFrom_119 rfl ?_
    refine ex_step (pc' := 121) dX12_wayFrom_120 rfl ?_
    refine ex_topi (fun y4 ey4 => ?_)
    have h := h y4 ey4
    refine ex_step (pc' := 123) (ls' := [some (.ref 420), some (.int x1), some (.int x2), some (.int x3), some (.int x4), some (.int x5), none, some (.int y4), some (.int x8), some (.int x9), some (.int x10), some (.int y3)]) dX12_wayFrom_121 rfl ?_
    refine ex_step (pc' := 124) dX12_wayFrom_123 rfl ?_
    refine ex_getr dX12_wayFrom_124 wf_RX12_64 (ly_a420 hL) rfl (ly_r420_29 hL) ?_
    refine ex_step (pc' := 129) dX12_wayFrom_127 rfl ?_
    obtain ⟨hv, h⟩ := h
    refine ex_iald dX12_wayFrom_129 (Or.inl (ly_a436 hL)) hv ?_
    refine ex_step (pc' := 132) (ls' := [some (.ref 420), some (.int x1), some (.int x2), some (.int x3), some (.int x4), some (.int x5), none, some (.int y4), some (.int (I 436 y3.toNatClampNeg)), some (.int x9), some (.int x10), some (.int y3)]) dX12_wayFrom_130 rfl ?_
    refine ex_step (pc' := 133) dX12_wayFrom_132 rfl ?_
    refine ex_getr dX12_wayFrom_133 wf_RX12_67 (ly_a420 hL) rfl (ly_r420_30 hL) ?_
    refine ex_step (pc' := 138) dX12_wayFrom_136 rfl ?_
    obtain ⟨hv, h⟩ := h
    refine ex_iald dX12_wayFrom_138 (Or.inl (ly_a437 hL)) hv ?_
    refine ex_step (pc' := 141) (ls' := [some (.ref 420), some (.int x1), some (.int x2), some (.int x3), some (.int x4), some (.int x5), none, some (.int y4), some (.int (I 436 y3.toNatClampNeg)), some (.int (I 437 y3.toNatClampNeg)), some (.int x10), some (.int y3)]) dX12_wayFrom_139 rfl ?_
    refine ex_step (pc' := 144) (ls' := [some (.ref 420), some (.int x1), some (.int x2), some (.int x3), some (.int x4), some (.int x5), none, some (.int y4), some (.int (I 436 y3.toNatClampNeg)), some (.int (I 437 y3.toNatClampNeg)), some (.int (x10 + 1)), some (.int y3)]) dX12_wayFrom_141 rfl ?_
    refine ex_step (pc' := 64) dX12_wayFrom_144 rfl ?_
    exact ex_less (ls' := [some (.ref 420), some (.int x1), some (.int x2), some (.int x3), some (.int x4), some (.int x5), none, some (.int y4), some (.int (I 436 y3.toNatClampNeg)), some (.int (I 437 y3.toNatClampNeg)), some (.int (x10 + 1)), none]) ⟨rfl, ⟨rfl, ⟨rfl, ⟨rfl, ⟨rfl, ⟨rfl, ⟨rfl, ⟨rfl, ⟨rfl, ⟨rfl, trivial⟩⟩⟩⟩⟩⟩⟩⟩⟩⟩ h
set_option maxHeartbeats 4000000 in
theorem BX12_wayFrom_166 {d : Nat} {Z : zZ} {I : zI} {J : zJ} {o : zO} {t u : Nat} (x1 : Int32) (x2 : Int32) (x3 : Int32) (x4 : Int32) (x5 : Int32) (x10 : Int32) (hL : zLY Z t u)  (h : ((x4 ≤ x10 → (∃ (v1 : Int32) (I2 : zI), zE d kX12_nextOrder 0 [some (.ref 420), some (.int x4), none, none, none, none, none] [] Z I J (some (.int v1), Z, I2, J) ∧ zE (d + 1) kX12_wayFrom 47 [some (.ref 420), some (.int x1), some (.int x2), some (.int x3), some (.int x4), some (.int x5), some (.int v1), none, none, none, none, none] [] Z I2 J o)) ∧ (¬ x4 ≤ x10 → (vp_in x10 6 ∧ (vp_in x10 6 ∧ (∀ I3 : zI, I3 = zu I 464 x10.toNatClampNeg (I 463 x10.toNatClampNeg) → zE (d + 1) kX12_wayFrom 166 [some (.ref 420), some (.int x1), some (.int x2), some (.int x3), some (.int x4), some (.int x5), none, none, none, none, some (.int (x10 + 1)), none] [] Z I3 J o)))))) : zE (d + 1) kX12_wayFrom 166 [some (.ref 420), some (.int x1), some (.int x2), some (.int x3), some (.int x4), some (.int x5), none, none, none, none, some (.int x10), none] [] Z I J o := by
  refine ex_step (pc' := 168) dX12_wayFrom_166 rfl ?_
  refine ex_step (pc' := 170) dX12_wayFrom_168 rfl ?_
  refine ex_icmp (pc' := 193) dX12_wayFrom_170 (by decide) (fun c => ?_) (fun c => ?_)
  · have h := h.1 c
    refine ex_step (pc' := 194) dX12_wayFrom_193 rfl ?_
    refine ex_step (pc' := 196) dX12_wayFrom_194 rfl ?_
    obtain ⟨v1, I2, hc, h⟩ := h
    refine ex_callV (as := [.int x4]) (st := []) (ci := 12) dX12_wayFrom_196 zmX12_nextOrder zl_RX12_428 ziX12_nextOrder zvX12_nextOrder (by decide) (ly_a420 hL) rfl (Nat.le_of_ble_eq_true rfl) (Nat.le_of_ble_eq_true rfl) hc ?_
    refine ex_step (pc' := 201) (ls' := [some (.ref 420), some (.int x1), some (.int x2), some (.int x3), some (.int x4), some (.int x5), some (.int v1), none, none, none, some (.int x10), none]) dX12_wayFrom_199 rfl ?_
    refine ex_step (pc' := 47) dX12_wayFrom_201 rfl ?_
    exact ex_less (ls' := [some (.ref 420), some (.int x1), some (.int x2), some (.int x3), some (.int x4), some (.int x5), some (.int v1), none, none, none, none, none]) ⟨rfl, ⟨rfl, ⟨rfl, ⟨rfl, ⟨rfl, ⟨rfl, ⟨rfl, trivial⟩⟩⟩⟩⟩⟩⟩ h
  · have h := h.2 c
    refine ex_step (pc' := 174) dX12_wayFrom_173 rfl ?_
    refine ex_getr dX12_wayFrom_174 wf_RX12_150 (ly_a420 hL) rfl (ly_r420_63 hL) ?_
    refine ex_step (pc' := 179) dX12_wayFrom_177 rfl ?_
    refine ex_step (pc' := 180) dX12_wayFrom_179 rfl ?_
    refine ex_getr dX12_wayFrom_180 wf_RX12_147 (ly_a420 hL) rfl (ly_r420_62 hL) ?_
    refine ex_step (pc' := 185) dX12_wayFrom_183 rfl ?_
    obtain ⟨hv, h⟩ := h
    refine ex_iald dX12_wayFrom_185 (Or.inl (ly_a463 hL)) hv ?_
    obtain ⟨hv, h⟩ := h
    refine ex_iastN dX12_wayFrom_186 (ly_a464 hL) hv (fun I3 eI3 => ?_)
    have h := h I3 eI3
    refine ex_step (pc' := 190) (ls' := [some (.ref 420), some (.int x1), some (.int x2), some (.int x3), some (.int x4), some (.int x5), none, none, none, none, some (.int (x10 + 1)), none]) dX12_wayFrom_187 rfl ?_
    refine ex_step (pc' := 166) dX12_wayFrom_190 rfl ?_
    exact h
set_option maxHeartbeats 4000000 in
theorem BX12_wayOf_0 {d : Nat} {Z : zZ} {I : zI} {J : zJ} {o : zO} {t u : Nat} (x1 : Int32) (hL : zLY Z t u)  (h : (vp_in (((7 : Int32) * (I 420 18)) + x1) 14 ∧ (vp_in (((7 : Int32) * (I 420 18)) + x1) 14 ∧ (∃ (v1 : Int32) (I2 : zI), zE (d + 1) kX12_wayFrom 0 [some (.ref 420), some (.int x1), some (.int (I 432 (((7 : Int32) * (I 420 18)) + x1).toNatClampNeg)), some (.int (I 433 (((7 : Int32) * (I 420 18)) + x1).toNatClampNeg)), none, none, none, none, none, none, none, none] [] Z I J (some (.int v1), Z, I2, J) ∧ o = (some (.int v1), Z, I2, J))))) : zE (d + 2) kX12_wayOf 0 [some (.ref 420), some (.int x1)] [] Z I J o := by
  refine ex_step (pc' := 1) dX12_wayOf_0 rfl ?_
  refine ex_step (pc' := 2) dX12_wayOf_1 rfl ?_
  refine ex_step (pc' := 3) dX12_wayOf_2 rfl ?_
  refine ex_getr dX12_wayOf_3 wf_RX12_52 (ly_a420 hL) rfl (ly_r420_25 hL) ?_
  refine ex_step (pc' := 8) (st' := [.int 7, .ref 432, .int x1, .ref 420]) dX12_wayOf_6 rfl ?_
  refine ex_step (pc' := 9) dX12_wayOf_8 rfl ?_
  refine ex_geti dX12_wayOf_9 wf_RX12_258 (ly_a420 hL) rfl ?_
  refine ex_step (pc' := 13) dX12_wayOf_12 rfl ?_
  refine ex_step (pc' := 14) dX12_wayOf_13 rfl ?_
  refine ex_step (pc' := 15) dX12_wayOf_14 rfl ?_
  obtain ⟨hv, h⟩ := h
  refine ex_iald dX12_wayOf_15 (Or.inl (ly_a432 hL)) hv ?_
  refine ex_step (pc' := 17) dX12_wayOf_16 rfl ?_
  refine ex_getr dX12_wayOf_17 wf_RX12_55 (ly_a420 hL) rfl (ly_r420_26 hL) ?_
  refine ex_step (pc' := 22) (st' := [.int 7, .ref 433, .int (I 432 (((7 : Int32) * (I 420 18)) + x1).toNatClampNeg), .int x1, .ref 420]) dX12_wayOf_20 rfl ?_
  refine ex_step (pc' := 23) dX12_wayOf_22 rfl ?_
  refine ex_geti dX12_wayOf_23 wf_RX12_258 (ly_a420 hL) rfl ?_
  refine ex_step (pc' := 27) dX12_wayOf_26 rfl ?_
  refine ex_step (pc' := 28) dX12_wayOf_27 rfl ?_
  refine ex_step (pc' := 29) dX12_wayOf_28 rfl ?_
  obtain ⟨hv, h⟩ := h
  refine ex_iald dX12_wayOf_29 (Or.inl (ly_a433 hL)) hv ?_
  obtain ⟨v1, I2, hc, h⟩ := h
  refine ex_callV (as := [.int x1, .int (I 432 (((7 : Int32) * (I 420 18)) + x1).toNatClampNeg), .int (I 433 (((7 : Int32) * (I 420 18)) + x1).toNatClampNeg)]) (st := []) (ci := 12) dX12_wayOf_30 zmX12_wayFrom zl_RX12_431 ziX12_wayFrom zvX12_wayFrom (by decide) (ly_a420 hL) rfl (Nat.le_of_ble_eq_true rfl) (Nat.le_of_ble_eq_true rfl) hc ?_
  rw [h]; exact ex_ret (v := some (.int v1)) ⟨dX12_wayOf_33, _, rfl, rfl⟩
set_option maxHeartbeats 4000000 in
theorem BX12_way_0 {d : Nat} {Z : zZ} {I : zI} {J : zJ} {o : zO} {t u : Nat} (x1 : Int32) (hL : zLY Z t u)  (h : (∃ (v1 : Int32), zE (d + 2) kX12_isMan 0 [some (.ref 420), some (.int x1)] [] Z I J (some (.int v1), Z, I, J) ∧ ((v1 = 0 → o = (some (.int (-1)), Z, I, J)) ∧ (¬ v1 = 0 → (∃ (v2 : Int32) (I3 : zI), zE (d + 2) kX12_wayOf 0 [some (.ref 420), some (.int x1)] [] Z I J (some (.int v2), Z, I3, J) ∧ o = (some (.int v2), Z, I3, J)))))) : zE (d + 3) kX12_way 0 [some (.ref 420), some (.int x1)] [] Z I J o := by
  refine ex_step (pc' := 1) dX12_way_0 rfl ?_
  refine ex_step (pc' := 2) dX12_way_1 rfl ?_
  obtain ⟨v1, hc, h⟩ := h
  refine ex_callV (as := [.int x1]) (st := []) (ci := 12) dX12_way_2 zmX12_isMan zl_RX12_394 ziX12_isMan zvX12_isMan (by decide) (ly_a420 hL) rfl (Nat.le_of_ble_eq_true rfl) (Nat.le_of_ble_eq_true rfl) hc ?_
  refine ex_if (pc' := 16) dX12_way_5 (by decide) (fun c => ?_) (fun c => ?_)
  · have h := h.1 c
    refine ex_step (pc' := 17) (st' := [.int (-1)]) dX12_way_16 rfl ?_
    rw [h]; exact ex_ret (v := some (.int (-1))) ⟨dX12_way_17, _, rfl, rfl⟩
  · have h := h.2 c
    refine ex_step (pc' := 9) dX12_way_8 rfl ?_
    refine ex_step (pc' := 10) dX12_way_9 rfl ?_
    obtain ⟨v2, I3, hc, h⟩ := h
    refine ex_callV (as := [.int x1]) (st := []) (ci := 12) dX12_way_10 zmX12_wayOf zl_RX12_434 ziX12_wayOf zvX12_wayOf (by decide) (ly_a420 hL) rfl (Nat.le_of_ble_eq_true rfl) (Nat.le_of_ble_eq_true rfl) hc ?_
    refine ex_step (pc' := 17) dX12_way_13 rfl ?_
    rw [h]; exact ex_ret (v := some (.int v2)) ⟨dX12_way_17, _, rfl, rfl⟩
set_option maxHeartbeats 4000000 in
theorem BX12_wayAt_0 {d : Nat} {Z : zZ} {I : zI} {J : zJ} {o : zO} {t u : Nat} (x1 : Int32) (x2 : Int32) (hL : zLY Z t u)  (h : (∃ (v1 : Int32), zE (d + 2) kX12_isMan 0 [some (.ref 420), some (.int x1)] [] Z I J (some (.int v1), Z, I, J) ∧ ((v1 = 0 → o = (some (.int (-1)), Z, I, J)) ∧ (¬ v1 = 0 → (vp_in (((7 : Int32) * (I 420 18)) + x1) 14 ∧ ((¬ (zbi (0 ≤ x2 ∧ x2 ≤ ((I 435 (((7 : Int32) * (I 420 18)) + x1).toNatClampNeg) - 1))) = 0 → (∃ (v2 : Int32) (I3 : zI), zE (d + 2) kX12_wayOf 0 [some (.ref 420), some (.int x1)] [] Z I J (some (.int v2), Z, I3, J) ∧ (vp_in x2 6 ∧ o = (some (.int (I3 464 x2.toNatClampNeg)), Z, I3, J)))) ∧ ((zbi (0 ≤ x2 ∧ x2 ≤ ((I 435 (((7 : Int32) * (I 420 18)) + x1).toNatClampNeg) - 1))) = 0 → o = (some (.int (-1)), Z, I, J)))))))) : zE (d + 3) kX12_wayAt 0 [some (.ref 420), some (.int x1), some (.int x2)] [] Z I J o := by
  refine ex_step (pc' := 1) dX12_wayAt_0 rfl ?_
  refine ex_step (pc' := 2) dX12_wayAt_1 rfl ?_
  obtain ⟨v1, hc, h⟩ := h
  refine ex_callV (as := [.int x1]) (st := []) (ci := 12) dX12_wayAt_2 zmX12_isMan zl_RX12_394 ziX12_isMan zvX12_isMan (by decide) (ly_a420 hL) rfl (Nat.le_of_ble_eq_true rfl) (Nat.le_of_ble_eq_true rfl) hc ?_
  refine ex_if (pc' := 32) dX12_wayAt_5 (by decide) (fun c => ?_) (fun c => ?_)
  · have h := h.1 c
    refine ex_step (pc' := 33) (st' := [.int (-1)]) dX12_wayAt_32 rfl ?_
    rw [h]; exact ex_ret (v := some (.int (-1))) ⟨dX12_wayAt_33, _, rfl, rfl⟩
  · have h := h.2 c
    refine ex_step (pc' := 9) dX12_wayAt_8 rfl ?_
    refine ex_step (pc' := 10) (st' := [.int 0, .int x2]) dX12_wayAt_9 rfl ?_
    refine ex_step (pc' := 11) dX12_wayAt_10 rfl ?_
    refine ex_getr dX12_wayAt_11 wf_RX12_61 (ly_a420 hL) rfl (ly_r420_28 hL) ?_
    refine ex_step (pc' := 16) (st' := [.int 7, .ref 435, .int 0, .int x2]) dX12_wayAt_14 rfl ?_
    refine ex_step (pc' := 17) dX12_wayAt_16 rfl ?_
    refine ex_geti dX12_wayAt_17 wf_RX12_258 (ly_a420 hL) rfl ?_
    refine ex_step (pc' := 21) dX12_wayAt_20 rfl ?_
    refine ex_step (pc' := 22) dX12_wayAt_21 rfl ?_
    refine ex_step (pc' := 23) dX12_wayAt_22 rfl ?_
    obtain ⟨hv, h⟩ := h
    refine ex_iald dX12_wayAt_23 (Or.inl (ly_a435 hL)) hv ?_
    refine ex_step (pc' := 25) (st' := [.int 1, .int (I 435 (((7 : Int32) * (I 420 18)) + x1).toNatClampNeg), .int 0, .int x2]) dX12_wayAt_24 rfl ?_
    refine ex_step (pc' := 26) dX12_wayAt_25 rfl ?_
    refine ex_callS (as := [.int x2, .int 0, .int ((I 435 (((7 : Int32) * (I 420 18)) + x1).toNatClampNeg) - 1)]) (st := []) dX12_wayAt_26 zmX12_in zl_RX12_345 zsX12_in rfl (Nat.le_of_ble_eq_true rfl) (Nat.le_of_ble_eq_true rfl) M_in ?_
    refine ex_if (pc' := 34) dX12_wayAt_29 (by decide) (fun c => ?_) (fun c => ?_)
    · have h := h.1 c
      refine ex_step (pc' := 35) dX12_wayAt_34 rfl ?_
      refine ex_step (pc' := 36) dX12_wayAt_35 rfl ?_
      obtain ⟨v2, I3, hc, h⟩ := h
      refine ex_callV (as := [.int x1]) (st := []) (ci := 12) dX12_wayAt_36 zmX12_wayOf zl_RX12_434 ziX12_wayOf zvX12_wayOf (by decide) (ly_a420 hL) rfl (Nat.le_of_ble_eq_true rfl) (Nat.le_of_ble_eq_true rfl) hc ?_
      refine ex_step (pc' := 40) dX12_wayAt_39 rfl ?_
      refine ex_step (pc' := 41) dX12_wayAt_40 rfl ?_
      refine ex_getr dX12_wayAt_41 wf_RX12_150 (ly_a420 hL) rfl (ly_r420_63 hL) ?_
      refine ex_step (pc' := 45) dX12_wayAt_44 rfl ?_
      obtain ⟨hv, h⟩ := h
      refine ex_iald dX12_wayAt_45 (Or.inl (ly_a464 hL)) hv ?_
      rw [h]; exact ex_ret (v := some (.int (I3 464 x2.toNatClampNeg))) ⟨dX12_wayAt_46, _, rfl, rfl⟩
    · have h := h.2 (Classical.not_not.mp c)
      refine ex_step (pc' := 33) (st' := [.int (-1)]) dX12_wayAt_32 rfl ?_
      rw [h]; exact ex_ret (v := some (.int (-1))) ⟨dX12_wayAt_33, _, rfl, rfl⟩
set_option maxHeartbeats 4000000 in
theorem BX12_lives_0 {d : Nat} {Z : zZ} {I : zI} {J : zJ} {o : zO} {t u : Nat} (x1 : Int32) (hL : zLY Z t u)  (h : (∃ (v1 : Int32), zE (d + 2) kX12_isMan 0 [some (.ref 420), some (.int x1)] [] Z I J (some (.int v1), Z, I, J) ∧ ((¬ v1 = 0 → (∃ (v2 : Int32) (I3 : zI), zE (d + 2) kX12_longOf 0 [some (.ref 420), some (.int x1), none, none] [] Z I J (some (.int v2), Z, I3, J) ∧ zE (d + 3) kX12_lives 21 [some (.ref 420), some (.int x1), some (.int v2), some (.int 0), some (.int 0), none] [] Z I3 J o)) ∧ (v1 = 0 → o = (some (.int (-1)), Z, I, J))))) : zE (d + 3) kX12_lives 0 [some (.ref 420), some (.int x1), none, none, none, none] [] Z I J o := by
  refine ex_step (pc' := 1) dX12_lives_0 rfl ?_
  refine ex_step (pc' := 2) dX12_lives_1 rfl ?_
  obtain ⟨v1, hc, h⟩ := h
  refine ex_callV (as := [.int x1]) (st := []) (ci := 12) dX12_lives_2 zmX12_isMan zl_RX12_394 ziX12_isMan zvX12_isMan (by decide) (ly_a420 hL) rfl (Nat.le_of_ble_eq_true rfl) (Nat.le_of_ble_eq_true rfl) hc ?_
  refine ex_if (pc' := 10) dX12_lives_5 (by decide) (fun c => ?_) (fun c => ?_)
  · have h := h.1 c
    refine ex_step (pc' := 11) dX12_lives_10 rfl ?_
    refine ex_step (pc' := 12) dX12_lives_11 rfl ?_
    obtain ⟨v2, I3, hc, h⟩ := h
    refine ex_callV (as := [.int x1]) (st := []) (ci := 12) dX12_lives_12 zmX12_longOf zl_RX12_359 ziX12_longOf zvX12_longOf (by decide) (ly_a420 hL) rfl (Nat.le_of_ble_eq_true rfl) (Nat.le_of_ble_eq_true rfl) hc ?_
    refine ex_step (pc' := 16) (ls' := [some (.ref 420), some (.int x1), some (.int v2), none, none, none]) dX12_lives_15 rfl ?_
    refine ex_step (pc' := 17) (st' := [.int 0]) dX12_lives_16 rfl ?_
    refine ex_step (pc' := 18) (ls' := [some (.ref 420), some (.int x1), some (.int v2), some (.int 0), none, none]) dX12_lives_17 rfl ?_
    refine ex_step (pc' := 19) (st' := [.int 0]) dX12_lives_18 rfl ?_
    refine ex_step (pc' := 21) (ls' := [some (.ref 420), some (.int x1), some (.int v2), some (.int 0), some (.int 0), none]) dX12_lives_19 rfl ?_
    exact h
  · have h := h.2 (Classical.not_not.mp c)
    refine ex_step (pc' := 9) (st' := [.int (-1)]) dX12_lives_8 rfl ?_
    rw [h]; exact ex_ret (v := some (.int (-1))) ⟨dX12_lives_9, _, rfl, rfl⟩
set_option maxHeartbeats 4000000 in
theorem BX12_lives_21 {d : Nat} {Z : zZ} {I : zI} {J : zJ} {o : zO} {t u : Nat} (x1 : Int32) (x2 : Int32) (x3 : Int32) (x4 : Int32) (hL : zLY Z t u)  (h : (vp_in (I 420 18) 2 ∧ (((I 430 (I 420 18).toNatClampNeg) ≤ x4 → o = (some (.int x3), Z, I, J)) ∧ (¬ (I 430 (I 420 18).toNatClampNeg) ≤ x4 → zE (d + 3) kX12_lives 38 [some (.ref 420), some (.int x1), some (.int x2), some (.int x3), some (.int x4), some (.int 0)] [] Z I J o)))) : zE (d + 3) kX12_lives 21 [some (.ref 420), some (.int x1), some (.int x2), some (.int x3), some (.int x4), none] [] Z I J o := by
  refine ex_step (pc' := 23) dX12_lives_21 rfl ?_
  refine ex_step (pc' := 24) dX12_lives_23 rfl ?_
  refine ex_getr dX12_lives_24 wf_RX12_46 (ly_a420 hL) rfl (ly_r420_23 hL) ?_
  refine ex_step (pc' := 28) dX12_lives_27 rfl ?_
  refine ex_geti dX12_lives_28 wf_RX12_258 (ly_a420 hL) rfl ?_
  obtain ⟨hv, h⟩ := h
  refine ex_iald dX12_lives_31 (Or.inl (ly_a430 hL)) hv ?_
  refine ex_icmp (pc' := 80) dX12_lives_32 (by decide) (fun c => ?_) (fun c => ?_)
  · have h := h.1 c
    refine ex_step (pc' := 81) dX12_lives_80 rfl ?_
    rw [h]; exact ex_ret (v := some (.int x3)) ⟨dX12_lives_81, _, rfl, rfl⟩
  · have h := h.2 c
    refine ex_step (pc' := 36) (st' := [.int 0]) dX12_lives_35 rfl ?_
    refine ex_step (pc' := 38) (ls' := [some (.ref 420), some (.int x1), some (.int x2), some (.int x3), some (.int x4), some (.int 0)]) dX12_lives_36 rfl ?_
    exact h
set_option maxHeartbeats 4000000 in
theorem BX12_lives_38 {d : Nat} {Z : zZ} {I : zI} {J : zJ} {o : zO} {t u : Nat} (x1 : Int32) (x2 : Int32) (x3 : Int32) (x4 : Int32) (x5 : Int32) (hL : zLY Z t u)  (h : (vp_in (I 420 18) 2 ∧ (((I 429 (I 420 18).toNatClampNeg) ≤ x5 → zE (d + 3) kX12_lives 21 [some (.ref 420), some (.int x1), some (.int x2), some (.int x3), some (.int (x4 + 1)), none] [] Z I J o) ∧ (¬ (I 429 (I 420 18).toNatClampNeg) ≤ x5 → (∃ (v1 : Int32) (I2 : zI), zE (d + 2) kX12_wayFrom 0 [some (.ref 420), some (.int x1), some (.int x5), some (.int x4), none, none, none, none, none, none, none, none] [] Z I J (some (.int v1), Z, I2, J) ∧ ((x2 < v1 → zE (d + 3) kX12_lives 38 [some (.ref 420), some (.int x1), some (.int x2), some (.int x3), some (.int x4), some (.int (x5 + 1))] [] Z I2 J o) ∧ (¬ x2 < v1 → zE (d + 3) kX12_lives 38 [some (.ref 420), some (.int x1), some (.int x2), some (.int (x3 + 1)), some (.int x4), some (.int (x5 + 1))] [] Z I2 J o))))))) : zE (d + 3) kX12_lives 38 [some (.ref 420), some (.int x1), some (.int x2), some (.int x3), some (.int x4), some (.int x5)] [] Z I J o := by
  refine ex_step (pc' := 40) dX12_lives_38 rfl ?_
  refine ex_step (pc' := 41) dX12_lives_40 rfl ?_
  refine ex_getr dX12_lives_41 wf_RX12_43 (ly_a420 hL) rfl (ly_r420_22 hL) ?_
  refine ex_step (pc' := 45) dX12_lives_44 rfl ?_
  refine ex_geti dX12_lives_45 wf_RX12_258 (ly_a420 hL) rfl ?_
  obtain ⟨hv, h⟩ := h
  refine ex_iald dX12_lives_48 (Or.inl (ly_a429 hL)) hv ?_
  refine ex_icmp (pc' := 74) dX12_lives_49 (by decide) (fun c => ?_) (fun c => ?_)
  · have h := h.1 c
    refine ex_step (pc' := 77) (ls' := [some (.ref 420), some (.int x1), some (.int x2), some (.int x3), some (.int (x4 + 1)), some (.int x5)]) dX12_lives_74 rfl ?_
    refine ex_step (pc' := 21) dX12_lives_77 rfl ?_
    exact ex_less (ls' := [some (.ref 420), some (.int x1), some (.int x2), some (.int x3), some (.int (x4 + 1)), none]) ⟨rfl, ⟨rfl, ⟨rfl, ⟨rfl, ⟨rfl, trivial⟩⟩⟩⟩⟩ h
  · have h := h.2 c
    refine ex_step (pc' := 53) dX12_lives_52 rfl ?_
    refine ex_step (pc' := 54) dX12_lives_53 rfl ?_
    refine ex_step (pc' := 56) dX12_lives_54 rfl ?_
    refine ex_step (pc' := 58) dX12_lives_56 rfl ?_
    obtain ⟨v1, I2, hc, h⟩ := h
    refine ex_callV (as := [.int x1, .int x5, .int x4]) (st := []) (ci := 12) dX12_lives_58 zmX12_wayFrom zl_RX12_431 ziX12_wayFrom zvX12_wayFrom (by decide) (ly_a420 hL) rfl (Nat.le_of_ble_eq_true rfl) (Nat.le_of_ble_eq_true rfl) hc ?_
    refine ex_step (pc' := 62) dX12_lives_61 rfl ?_
    refine ex_icmp (pc' := 68) dX12_lives_62 (by decide) (fun c => ?_) (fun c => ?_)
    · have h := h.1 c
      refine ex_step (pc' := 71) (ls' := [some (.ref 420), some (.int x1), some (.int x2), some (.int x3), some (.int x4), some (.int (x5 + 1))]) dX12_lives_68 rfl ?_
      refine ex_step (pc' := 38) dX12_lives_71 rfl ?_
      exact h
    · have h := h.2 c
      refine ex_step (pc' := 68) (ls' := [some (.ref 420), some (.int x1), some (.int x2), some (.int (x3 + 1)), some (.int x4), some (.int x5)]) dX12_lives_65 rfl ?_
      refine ex_step (pc' := 71) (ls' := [some (.ref 420), some (.int x1), some (.int x2), some (.int (x3 + 1)), some (.int x4), some (.int (x5 + 1))]) dX12_lives_68 rfl ?_
      refine ex_step (pc' := 38) dX12_lives_71 rfl ?_
      exact h
set_option maxHeartbeats 4000000 in
theorem BX12_turnsOf_0 {d : Nat} {Z : zZ} {I : zI} {J : zJ} {o : zO} {t u : Nat} (x1 : Int32) (x2 : Int32) (hL : zLY Z t u)  (h : zE d kX12_turnsOf 5 [some (.ref 420), some (.int x1), some (.int x2), some (.int 0), some (.int 0), none, none] [] Z I J o) : zE d kX12_turnsOf 0 [some (.ref 420), some (.int x1), some (.int x2), none, none, none, none] [] Z I J o := by
  refine ex_step (pc' := 1) (st' := [.int 0]) dX12_turnsOf_0 rfl ?_
  refine ex_step (pc' := 2) (ls' := [some (.ref 420), some (.int x1), some (.int x2), some (.int 0), none, none, none]) dX12_turnsOf_1 rfl ?_
  refine ex_step (pc' := 3) (st' := [.int 0]) dX12_turnsOf_2 rfl ?_
  refine ex_step (pc' := 5) (ls' := [some (.ref 420), some (.int x1), some (.int x2), some (.int 0), some (.int 0), none, none]) dX12_turnsOf_3 rfl ?_
  exact h
set_option maxHeartbeats 4000000 in
theorem BX12_turnsOf_5 {d : Nat} {Z : zZ} {I : zI} {J : zJ} {o : zO} {t u : Nat} (x1 : Int32) (x2 : Int32) (x3 : Int32) (x4 : Int32) (hL : zLY Z t u)  (h : (vp_in ((14 : Int32) + x1) 1290 ∧ (((I 458 ((14 : Int32) + x1).toNatClampNeg) ≤ x4 → o = (some (.int x3), Z, I, J)) ∧ (¬ (I 458 ((14 : Int32) + x1).toNatClampNeg) ≤ x4 → (vp_in (((30 : Int32) + ((60 : Int32) * x1)) + x4) 1290 ∧ (∀ y1 : Int32, y1 = (I 458 (((30 : Int32) + ((60 : Int32) * x1)) + x4).toNatClampNeg) → (vp_in (((870 : Int32) + ((60 : Int32) * x1)) + x4) 1290 ∧ (∀ y2 : Int32, y2 = ((I 458 (((870 : Int32) + ((60 : Int32) * x1)) + x4).toNatClampNeg) - 144) → ((y2 < 0 → zE d kX12_turnsOf 5 [some (.ref 420), some (.int x1), some (.int x2), some (.int x3), some (.int (x4 + 1)), none, none] [] Z I J o) ∧ (¬ y2 < 0 → (vp_in (((6 : Int32) * (I 420 18)) + x2) 12 ∧ ((¬ (y2 / 12) = (I 440 (((6 : Int32) * (I 420 18)) + x2).toNatClampNeg) → zE d kX12_turnsOf 5 [some (.ref 420), some (.int x1), some (.int x2), some (.int x3), some (.int (x4 + 1)), none, none] [] Z I J o) ∧ ((y2 / 12) = (I 440 (((6 : Int32) * (I 420 18)) + x2).toNatClampNeg) → (vp_in (((6 : Int32) * (I 420 18)) + x2) 12 ∧ (((I 439 (((6 : Int32) * (I 420 18)) + x2).toNatClampNeg) < (y2 - y2 / 12 * 12) → ((¬ y1 = 1 → zE d kX12_turnsOf 5 [some (.ref 420), some (.int x1), some (.int x2), some (.int (x3 + (-1))), some (.int (x4 + 1)), none, none] [] Z I J o) ∧ (y1 = 1 → zE d kX12_turnsOf 5 [some (.ref 420), some (.int x1), some (.int x2), some (.int (x3 + 1)), some (.int (x4 + 1)), none, none] [] Z I J o))) ∧ (¬ (I 439 (((6 : Int32) * (I 420 18)) + x2).toNatClampNeg) < (y2 - y2 / 12 * 12) → zE d kX12_turnsOf 5 [some (.ref 420), some (.int x1), some (.int x2), some (.int x3), some (.int (x4 + 1)), none, none] [] Z I J o)))))))))))))))) : zE d kX12_turnsOf 5 [some (.ref 420), some (.int x1), some (.int x2), some (.int x3), some (.int x4), none, none] [] Z I J o := by
  refine ex_step (pc' := 7) dX12_turnsOf_5 rfl ?_
  refine ex_step (pc' := 8) dX12_turnsOf_7 rfl ?_
  refine ex_getr dX12_turnsOf_8 wf_RX12_131 (ly_a420 hL) rfl (ly_r420_56 hL) ?_
  refine ex_step (pc' := 13) (st' := [.int 14, .ref 458, .int x4]) dX12_turnsOf_11 rfl ?_
  refine ex_step (pc' := 14) dX12_turnsOf_13 rfl ?_
  refine ex_step (pc' := 15) dX12_turnsOf_14 rfl ?_
  obtain ⟨hv, h⟩ := h
  refine ex_iald dX12_turnsOf_15 (Or.inl (ly_a458 hL)) hv ?_
  refine ex_icmp (pc' := 130) dX12_turnsOf_16 (by decide) (fun c => ?_) (fun c => ?_)
  · have h := h.1 c
    refine ex_step (pc' := 131) dX12_turnsOf_130 rfl ?_
    rw [h]; exact ex_ret (v := some (.int x3)) ⟨dX12_turnsOf_131, _, rfl, rfl⟩
  · have h := h.2 c
    refine ex_step (pc' := 20) dX12_turnsOf_19 rfl ?_
    refine ex_getr dX12_turnsOf_20 wf_RX12_131 (ly_a420 hL) rfl (ly_r420_56 hL) ?_
    refine ex_step (pc' := 25) (st' := [.int 30, .ref 458]) dX12_turnsOf_23 rfl ?_
    refine ex_step (pc' := 27) (st' := [.int 60, .int 30, .ref 458]) dX12_turnsOf_25 rfl ?_
    refine ex_step (pc' := 28) dX12_turnsOf_27 rfl ?_
    refine ex_step (pc' := 29) dX12_turnsOf_28 rfl ?_
    refine ex_step (pc' := 30) dX12_turnsOf_29 rfl ?_
    refine ex_step (pc' := 32) dX12_turnsOf_30 rfl ?_
    refine ex_step (pc' := 33) dX12_turnsOf_32 rfl ?_
    obtain ⟨hv, h⟩ := h
    refine ex_iald dX12_turnsOf_33 (Or.inl (ly_a458 hL)) hv ?_
    refine ex_topi (fun y1 ey1 => ?_)
    have h := h y1 ey1
    refine ex_step (pc' := 36) (ls' := [some (.ref 420), some (.int x1), some (.int x2), some (.int x3), some (.int x4), some (.int y1), none]) dX12_turnsOf_34 rfl ?_
    refine ex_step (pc' := 37) dX12_turnsOf_36 rfl ?_
    refine ex_getr dX12_turnsOf_37 wf_RX12_131 (ly_a420 hL) rfl (ly_r420_56 hL) ?_
    refine ex_step (pc' := 43) (st' := [.int 870, .ref 458]) dX12_turnsOf_40 rfl ?_
    refine ex_step (pc' := 45) (st' := [.int 60, .int 870, .ref 458]) dX12_turnsOf_43 rfl ?_
    refine ex_step (pc' := 46) dX12_turnsOf_45 rfl ?_
    refine ex_step (pc' := 47) dX12_turnsOf_46 rfl ?_
    refine ex_step (pc' := 48) dX12_turnsOf_47 rfl ?_
    refine ex_step (pc' := 50) dX12_turnsOf_48 rfl ?_
    refine ex_step (pc' := 51) dX12_turnsOf_50 rfl ?_
    obtain ⟨hv, h⟩ := h
    refine ex_iald dX12_turnsOf_51 (Or.inl (ly_a458 hL)) hv ?_
    refine ex_step (pc' := 55) (st' := [.int 144, .int (I 458 (((870 : Int32) + ((60 : Int32) * x1)) + x4).toNatClampNeg)]) dX12_turnsOf_52 rfl ?_
    refine ex_step (pc' := 56) dX12_turnsOf_55 rfl ?_
    refine ex_topi (fun y2 ey2 => ?_)
    have h := h y2 ey2
    refine ex_step (pc' := 58) (ls' := [some (.ref 420), some (.int x1), some (.int x2), some (.int x3), some (.int x4), some (.int y1), some (.int y2)]) dX12_turnsOf_56 rfl ?_
    refine ex_step (pc' := 60) dX12_turnsOf_58 rfl ?_
    refine ex_if (pc' := 124) dX12_turnsOf_60 (by decide) (fun c => ?_) (fun c => ?_)
    · have h := h.1 c
      refine ex_step (pc' := 127) (ls' := [some (.ref 420), some (.int x1), some (.int x2), some (.int x3), some (.int (x4 + 1)), some (.int y1), some (.int y2)]) dX12_turnsOf_124 rfl ?_
      refine ex_step (pc' := 5) dX12_turnsOf_127 rfl ?_
      exact ex_less (ls' := [some (.ref 420), some (.int x1), some (.int x2), some (.int x3), some (.int (x4 + 1)), none, none]) ⟨rfl, ⟨rfl, ⟨rfl, ⟨rfl, ⟨rfl, trivial⟩⟩⟩⟩⟩ h
    · have h := h.2 c
      refine ex_step (pc' := 65) dX12_turnsOf_63 rfl ?_
      refine ex_step (pc' := 67) (st' := [.int 12, .int y2]) dX12_turnsOf_65 rfl ?_
      refine ex_div dX12_turnsOf_67 (by decide) ?_
      refine ex_step (pc' := 69) dX12_turnsOf_68 rfl ?_
      refine ex_getr dX12_turnsOf_69 wf_RX12_76 (ly_a420 hL) rfl (ly_r420_33 hL) ?_
      refine ex_step (pc' := 74) (st' := [.int 6, .ref 440, .int (y2 / 12)]) dX12_turnsOf_72 rfl ?_
      refine ex_step (pc' := 75) dX12_turnsOf_74 rfl ?_
      refine ex_geti dX12_turnsOf_75 wf_RX12_258 (ly_a420 hL) rfl ?_
      refine ex_step (pc' := 79) dX12_turnsOf_78 rfl ?_
      refine ex_step (pc' := 80) dX12_turnsOf_79 rfl ?_
      refine ex_step (pc' := 81) dX12_turnsOf_80 rfl ?_
      obtain ⟨hv, h⟩ := h
      refine ex_iald dX12_turnsOf_81 (Or.inl (ly_a440 hL)) hv ?_
      refine ex_icmp (pc' := 124) dX12_turnsOf_82 (by decide) (fun c => ?_) (fun c => ?_)
      · have h := h.1 c
        refine ex_step (pc' := 127) (ls' := [some (.ref 420), some (.int x1), some (.int x2), some (.int x3), some (.int (x4 + 1)), some (.int y1), some (.int y2)]) dX12_turnsOf_124 rfl ?_
        refine ex_step (pc' := 5) dX12_turnsOf_127 rfl ?_
        exact ex_less (ls' := [some (.ref 420), some (.int x1), some (.int x2), some (.int x3), some (.int (x4 + 1)), none, none]) ⟨rfl, ⟨rfl, ⟨rfl, ⟨rfl, ⟨rfl, trivial⟩⟩⟩⟩⟩ h
      · have h := h.2 (Classical.not_not.mp c)
        refine ex_step (pc' := 87) dX12_turnsOf_85 rfl ?_
        refine ex_step (pc' := 89) (st' := [.int 12, .int y2]) dX12_turnsOf_87 rfl ?_
        refine ex_rem dX12_turnsOf_89 (by decide) ?_
        refine ex_step (pc' := 91) dX12_turnsOf_90 rfl ?_
        refine ex_getr dX12_turnsOf_91 wf_RX12_73 (ly_a420 hL) rfl (ly_r420_32 hL) ?_
        refine ex_step (pc' := 96) (st' := [.int 6, .ref 439, .int (y2 - y2 / 12 * 12)]) dX12_turnsOf_94 rfl ?_
        refine ex_step (pc' := 97) dX12_turnsOf_96 rfl ?_
        refine ex_geti dX12_turnsOf_97 wf_RX12_258 (ly_a420 hL) rfl ?_
        refine ex_step (pc' := 101) dX12_turnsOf_100 rfl ?_
        refine ex_step (pc' := 102) dX12_turnsOf_101 rfl ?_
        refine ex_step (pc' := 103) dX12_turnsOf_102 rfl ?_
        obtain ⟨hv, h⟩ := h
        refine ex_iald dX12_turnsOf_103 (Or.inl (ly_a439 hL)) hv ?_
        refine ex_icmp (pc' := 110) dX12_turnsOf_104 (by decide) (fun c => ?_) (fun c => ?_)
        · have h := h.1 c
          refine ex_step (pc' := 111) dX12_turnsOf_110 rfl ?_
          refine ex_step (pc' := 113) dX12_turnsOf_111 rfl ?_
          refine ex_step (pc' := 114) (st' := [.int 1, .int y1, .int x3]) dX12_turnsOf_113 rfl ?_
          refine ex_icmp (pc' := 121) dX12_turnsOf_114 (by decide) (fun c => ?_) (fun c => ?_)
          · have h := h.1 c
            refine ex_step (pc' := 122) (st' := [.int (-1), .int x3]) dX12_turnsOf_121 rfl ?_
            refine ex_step (pc' := 123) dX12_turnsOf_122 rfl ?_
            refine ex_step (pc' := 124) (ls' := [some (.ref 420), some (.int x1), some (.int x2), some (.int (x3 + (-1))), some (.int x4), some (.int y1), some (.int y2)]) dX12_turnsOf_123 rfl ?_
            refine ex_step (pc' := 127) (ls' := [some (.ref 420), some (.int x1), some (.int x2), some (.int (x3 + (-1))), some (.int (x4 + 1)), some (.int y1), some (.int y2)]) dX12_turnsOf_124 rfl ?_
            refine ex_step (pc' := 5) dX12_turnsOf_127 rfl ?_
            exact ex_less (ls' := [some (.ref 420), some (.int x1), some (.int x2), some (.int (x3 + (-1))), some (.int (x4 + 1)), none, none]) ⟨rfl, ⟨rfl, ⟨rfl, ⟨rfl, ⟨rfl, trivial⟩⟩⟩⟩⟩ h
          · have h := h.2 (Classical.not_not.mp c)
            refine ex_step (pc' := 118) (st' := [.int 1, .int x3]) dX12_turnsOf_117 rfl ?_
            refine ex_step (pc' := 122) dX12_turnsOf_118 rfl ?_
            refine ex_step (pc' := 123) dX12_turnsOf_122 rfl ?_
            refine ex_step (pc' := 124) (ls' := [some (.ref 420), some (.int x1), some (.int x2), some (.int (x3 + 1)), some (.int x4), some (.int y1), some (.int y2)]) dX12_turnsOf_123 rfl ?_
            refine ex_step (pc' := 127) (ls' := [some (.ref 420), some (.int x1), some (.int x2), some (.int (x3 + 1)), some (.int (x4 + 1)), some (.int y1), some (.int y2)]) dX12_turnsOf_124 rfl ?_
            refine ex_step (pc' := 5) dX12_turnsOf_127 rfl ?_
            exact ex_less (ls' := [some (.ref 420), some (.int x1), some (.int x2), some (.int (x3 + 1)), some (.int (x4 + 1)), none, none]) ⟨rfl, ⟨rfl, ⟨rfl, ⟨rfl, ⟨rfl, trivial⟩⟩⟩⟩⟩ h
        · have h := h.2 c
          refine ex_step (pc' := 124) dX12_turnsOf_107 rfl ?_
          refine ex_step (pc' := 127) (ls' := [some (.ref 420), some (.int x1), some (.int x2), some (.int x3), some (.int (x4 + 1)), some (.int y1), some (.int y2)]) dX12_turnsOf_124 rfl ?_
          refine ex_step (pc' := 5) dX12_turnsOf_127 rfl ?_
          exact ex_less (ls' := [some (.ref 420), some (.int x1), some (.int x2), some (.int x3), some (.int (x4 + 1)), none, none]) ⟨rfl, ⟨rfl, ⟨rfl, ⟨rfl, ⟨rfl, trivial⟩⟩⟩⟩⟩ h
set_option maxHeartbeats 4000000 in
theorem BX12_turns_0 {d : Nat} {Z : zZ} {I : zI} {J : zJ} {o : zO} {t u : Nat} (x1 : Int32) (x2 : Int32) (hL : zLY Z t u)  (h : (∃ (v1 : Int32), zE (d + 1) kX12_isMan 0 [some (.ref 420), some (.int x1)] [] Z I J (some (.int v1), Z, I, J) ∧ ((v1 = 0 → o = (some (.int (-1000)), Z, I, J)) ∧ (¬ v1 = 0 → (vp_in (I 420 18) 2 ∧ ((¬ (zbi (0 ≤ x2 ∧ x2 ≤ ((I 438 (I 420 18).toNatClampNeg) - 1))) = 0 → (∃ (I2 : zI), zE (d + 1) kX12_copies 0 [some (.ref 420), none] [] Z I J (none, Z, I2, J) ∧ (∃ (v3 : Int32), zE (d + 1) kX12_turnsOf 0 [some (.ref 420), some (.int x1), some (.int x2), none, none, none, none] [] Z I2 J (some (.int v3), Z, I2, J) ∧ o = (some (.int v3), Z, I2, J)))) ∧ ((zbi (0 ≤ x2 ∧ x2 ≤ ((I 438 (I 420 18).toNatClampNeg) - 1))) = 0 → o = (some (.int (-1000)), Z, I, J)))))))) : zE (d + 2) kX12_turns 0 [some (.ref 420), some (.int x1), some (.int x2)] [] Z I J o := by
  refine ex_step (pc' := 1) dX12_turns_0 rfl ?_
  refine ex_step (pc' := 2) dX12_turns_1 rfl ?_
  obtain ⟨v1, hc, h⟩ := h
  refine ex_callV (as := [.int x1]) (st := []) (ci := 12) dX12_turns_2 zmX12_isMan zl_RX12_394 ziX12_isMan zvX12_isMan (by decide) (ly_a420 hL) rfl (Nat.le_of_ble_eq_true rfl) (Nat.le_of_ble_eq_true rfl) hc ?_
  refine ex_if (pc' := 27) dX12_turns_5 (by decide) (fun c => ?_) (fun c => ?_)
  · have h := h.1 c
    refine ex_step (pc' := 30) (st' := [.int (-1000)]) dX12_turns_27 rfl ?_
    rw [h]; exact ex_ret (v := some (.int (-1000))) ⟨dX12_turns_30, _, rfl, rfl⟩
  · have h := h.2 c
    refine ex_step (pc' := 9) dX12_turns_8 rfl ?_
    refine ex_step (pc' := 10) (st' := [.int 0, .int x2]) dX12_turns_9 rfl ?_
    refine ex_step (pc' := 11) dX12_turns_10 rfl ?_
    refine ex_getr dX12_turns_11 wf_RX12_70 (ly_a420 hL) rfl (ly_r420_31 hL) ?_
    refine ex_step (pc' := 15) dX12_turns_14 rfl ?_
    refine ex_geti dX12_turns_15 wf_RX12_258 (ly_a420 hL) rfl ?_
    obtain ⟨hv, h⟩ := h
    refine ex_iald dX12_turns_18 (Or.inl (ly_a438 hL)) hv ?_
    refine ex_step (pc' := 20) (st' := [.int 1, .int (I 438 (I 420 18).toNatClampNeg), .int 0, .int x2]) dX12_turns_19 rfl ?_
    refine ex_step (pc' := 21) dX12_turns_20 rfl ?_
    refine ex_callS (as := [.int x2, .int 0, .int ((I 438 (I 420 18).toNatClampNeg) - 1)]) (st := []) dX12_turns_21 zmX12_in zl_RX12_345 zsX12_in rfl (Nat.le_of_ble_eq_true rfl) (Nat.le_of_ble_eq_true rfl) M_in ?_
    refine ex_if (pc' := 31) dX12_turns_24 (by decide) (fun c => ?_) (fun c => ?_)
    · have h := h.1 c
      refine ex_step (pc' := 32) dX12_turns_31 rfl ?_
      obtain ⟨I2, hc, h⟩ := h
      refine ex_callV (as := []) (st := []) (ci := 12) dX12_turns_32 zmX12_copies zl_RX12_397 ziX12_copies zvX12_copies (by decide) (ly_a420 hL) rfl (Nat.le_of_ble_eq_true rfl) (Nat.le_of_ble_eq_true rfl) hc ?_
      refine ex_step (pc' := 36) dX12_turns_35 rfl ?_
      refine ex_step (pc' := 37) dX12_turns_36 rfl ?_
      refine ex_step (pc' := 38) dX12_turns_37 rfl ?_
      obtain ⟨v3, hc, h⟩ := h
      refine ex_callV (as := [.int x1, .int x2]) (st := []) (ci := 12) dX12_turns_38 zmX12_turnsOf zl_RX12_437 ziX12_turnsOf zvX12_turnsOf (by decide) (ly_a420 hL) rfl (Nat.le_of_ble_eq_true rfl) (Nat.le_of_ble_eq_true rfl) hc ?_
      rw [h]; exact ex_ret (v := some (.int v3)) ⟨dX12_turns_41, _, rfl, rfl⟩
    · have h := h.2 (Classical.not_not.mp c)
      refine ex_step (pc' := 30) (st' := [.int (-1000)]) dX12_turns_27 rfl ?_
      rw [h]; exact ex_ret (v := some (.int (-1000))) ⟨dX12_turns_30, _, rfl, rfl⟩
set_option maxHeartbeats 4000000 in
theorem BX12_thieves_0 {d : Nat} {Z : zZ} {I : zI} {J : zJ} {o : zO} {t u : Nat}  (hL : zLY Z t u)  (h : (∃ (I1 : zI), zE d kX12_copies 0 [some (.ref 420), none] [] Z I J (none, Z, I1, J) ∧ zE (d + 1) kX12_thieves 8 [some (.ref 420), some (.int 0), some (.int 0), none] [] Z I1 J o)) : zE (d + 1) kX12_thieves 0 [some (.ref 420), none, none, none] [] Z I J o := by
  refine ex_step (pc' := 1) dX12_thieves_0 rfl ?_
  obtain ⟨I1, hc, h⟩ := h
  refine ex_callV (as := []) (st := []) (ci := 12) dX12_thieves_1 zmX12_copies zl_RX12_397 ziX12_copies zvX12_copies (by decide) (ly_a420 hL) rfl (Nat.le_of_ble_eq_true rfl) (Nat.le_of_ble_eq_true rfl) hc ?_
  refine ex_step (pc' := 5) (st' := [.int 0]) dX12_thieves_4 rfl ?_
  refine ex_step (pc' := 6) (ls' := [some (.ref 420), some (.int 0), none, none]) dX12_thieves_5 rfl ?_
  refine ex_step (pc' := 7) (st' := [.int 0]) dX12_thieves_6 rfl ?_
  refine ex_step (pc' := 8) (ls' := [some (.ref 420), some (.int 0), some (.int 0), none]) dX12_thieves_7 rfl ?_
  exact h
set_option maxHeartbeats 4000000 in
theorem BX12_thieves_8 {d : Nat} {Z : zZ} {I : zI} {J : zJ} {o : zO} {t u : Nat} (x1 : Int32) (x2 : Int32) (hL : zLY Z t u)  (h : (vp_in (I 420 18) 2 ∧ (((I 431 (I 420 18).toNatClampNeg) ≤ x2 → o = (some (.int x1), Z, I, J)) ∧ (¬ (I 431 (I 420 18).toNatClampNeg) ≤ x2 → zE (d + 1) kX12_thieves 23 [some (.ref 420), some (.int x1), some (.int x2), some (.int 0)] [] Z I J o)))) : zE (d + 1) kX12_thieves 8 [some (.ref 420), some (.int x1), some (.int x2), none] [] Z I J o := by
  refine ex_step (pc' := 9) dX12_thieves_8 rfl ?_
  refine ex_step (pc' := 10) dX12_thieves_9 rfl ?_
  refine ex_getr dX12_thieves_10 wf_RX12_49 (ly_a420 hL) rfl (ly_r420_24 hL) ?_
  refine ex_step (pc' := 14) dX12_thieves_13 rfl ?_
  refine ex_geti dX12_thieves_14 wf_RX12_258 (ly_a420 hL) rfl ?_
  obtain ⟨hv, h⟩ := h
  refine ex_iald dX12_thieves_17 (Or.inl (ly_a431 hL)) hv ?_
  refine ex_icmp (pc' := 63) dX12_thieves_18 (by decide) (fun c => ?_) (fun c => ?_)
  · have h := h.1 c
    refine ex_step (pc' := 64) dX12_thieves_63 rfl ?_
    rw [h]; exact ex_ret (v := some (.int x1)) ⟨dX12_thieves_64, _, rfl, rfl⟩
  · have h := h.2 c
    refine ex_step (pc' := 22) (st' := [.int 0]) dX12_thieves_21 rfl ?_
    refine ex_step (pc' := 23) (ls' := [some (.ref 420), some (.int x1), some (.int x2), some (.int 0)]) dX12_thieves_22 rfl ?_
    exact h
set_option maxHeartbeats 4000000 in
theorem BX12_thieves_23 {d : Nat} {Z : zZ} {I : zI} {J : zJ} {o : zO} {t u : Nat} (x1 : Int32) (x2 : Int32) (x3 : Int32) (hL : zLY Z t u)  (h : (vp_in (I 420 18) 2 ∧ (((I 438 (I 420 18).toNatClampNeg) ≤ x3 → zE (d + 1) kX12_thieves 8 [some (.ref 420), some (.int x1), some (.int (x2 + 1)), none] [] Z I J o) ∧ (¬ (I 438 (I 420 18).toNatClampNeg) ≤ x3 → (∃ (v1 : Int32), zE d kX12_turnsOf 0 [some (.ref 420), some (.int x2), some (.int x3), none, none, none, none] [] Z I J (some (.int v1), Z, I, J) ∧ ((0 ≤ v1 → zE (d + 1) kX12_thieves 23 [some (.ref 420), some (.int x1), some (.int x2), some (.int (x3 + 1))] [] Z I J o) ∧ (¬ 0 ≤ v1 → (∀ y2 : Int32, y2 = (x1 ||| ((1 : Int32) <<< (x2 &&& 31))) → zE (d + 1) kX12_thieves 23 [some (.ref 420), some (.int y2), some (.int x2), some (.int (x3 + 1))] [] Z I J o)))))))) : zE (d + 1) kX12_thieves 23 [some (.ref 420), some (.int x1), some (.int x2), some (.int x3)] [] Z I J o := by
  refine ex_step (pc' := 24) dX12_thieves_23 rfl ?_
  refine ex_step (pc' := 25) dX12_thieves_24 rfl ?_
  refine ex_getr dX12_thieves_25 wf_RX12_70 (ly_a420 hL) rfl (ly_r420_31 hL) ?_
  refine ex_step (pc' := 29) dX12_thieves_28 rfl ?_
  refine ex_geti dX12_thieves_29 wf_RX12_258 (ly_a420 hL) rfl ?_
  obtain ⟨hv, h⟩ := h
  refine ex_iald dX12_thieves_32 (Or.inl (ly_a438 hL)) hv ?_
  refine ex_icmp (pc' := 57) dX12_thieves_33 (by decide) (fun c => ?_) (fun c => ?_)
  · have h := h.1 c
    refine ex_step (pc' := 60) (ls' := [some (.ref 420), some (.int x1), some (.int (x2 + 1)), some (.int x3)]) dX12_thieves_57 rfl ?_
    refine ex_step (pc' := 8) dX12_thieves_60 rfl ?_
    exact ex_less (ls' := [some (.ref 420), some (.int x1), some (.int (x2 + 1)), none]) ⟨rfl, ⟨rfl, ⟨rfl, trivial⟩⟩⟩ h
  · have h := h.2 c
    refine ex_step (pc' := 37) dX12_thieves_36 rfl ?_
    refine ex_step (pc' := 38) dX12_thieves_37 rfl ?_
    refine ex_step (pc' := 39) dX12_thieves_38 rfl ?_
    obtain ⟨v1, hc, h⟩ := h
    refine ex_callV (as := [.int x2, .int x3]) (st := []) (ci := 12) dX12_thieves_39 zmX12_turnsOf zl_RX12_437 ziX12_turnsOf zvX12_turnsOf (by decide) (ly_a420 hL) rfl (Nat.le_of_ble_eq_true rfl) (Nat.le_of_ble_eq_true rfl) hc ?_
    refine ex_if (pc' := 51) dX12_thieves_42 (by decide) (fun c => ?_) (fun c => ?_)
    · have h := h.1 c
      refine ex_step (pc' := 54) (ls' := [some (.ref 420), some (.int x1), some (.int x2), some (.int (x3 + 1))]) dX12_thieves_51 rfl ?_
      refine ex_step (pc' := 23) dX12_thieves_54 rfl ?_
      exact h
    · have h := h.2 c
      refine ex_step (pc' := 46) dX12_thieves_45 rfl ?_
      refine ex_step (pc' := 47) (st' := [.int 1, .int x1]) dX12_thieves_46 rfl ?_
      refine ex_step (pc' := 48) dX12_thieves_47 rfl ?_
      refine ex_step (pc' := 49) dX12_thieves_48 rfl ?_
      refine ex_step (pc' := 50) dX12_thieves_49 rfl ?_
      refine ex_topi (fun y2 ey2 => ?_)
      have h := h y2 ey2
      refine ex_step (pc' := 51) (ls' := [some (.ref 420), some (.int y2), some (.int x2), some (.int x3)]) dX12_thieves_50 rfl ?_
      refine ex_step (pc' := 54) (ls' := [some (.ref 420), some (.int y2), some (.int x2), some (.int (x3 + 1))]) dX12_thieves_51 rfl ?_
      refine ex_step (pc' := 23) dX12_thieves_54 rfl ?_
      exact h
set_option maxHeartbeats 4000000 in
theorem BX12_meet_0 {d : Nat} {Z : zZ} {I : zI} {J : zJ} {o : zO} {t u : Nat} (x1 : Int32) (x2 : Int32) (hL : zLY Z t u)  (h : (∃ (v1 : Int32), zE (d + 5) kX12_areTwo 0 [some (.ref 420), some (.int x1), some (.int x2)] [] Z I J (some (.int v1), Z, I, J) ∧ ((¬ v1 = 0 → (∃ (I2 : zI), zE (d + 5) kX12_copies 0 [some (.ref 420), none] [] Z I J (none, Z, I2, J) ∧ zE (d + 6) kX12_meet 17 [some (.ref 420), some (.int x1), some (.int x2), some (.int 0)] [] Z I2 J o)) ∧ (v1 = 0 → o = (some (.int (-1)), Z, I, J))))) : zE (d + 6) kX12_meet 0 [some (.ref 420), some (.int x1), some (.int x2), none] [] Z I J o := by
  refine ex_step (pc' := 1) dX12_meet_0 rfl ?_
  refine ex_step (pc' := 2) dX12_meet_1 rfl ?_
  refine ex_step (pc' := 3) dX12_meet_2 rfl ?_
  obtain ⟨v1, hc, h⟩ := h
  refine ex_callV (as := [.int x1, .int x2]) (st := []) (ci := 12) dX12_meet_3 zmX12_areTwo zl_RX12_413 ziX12_areTwo zvX12_areTwo (by decide) (ly_a420 hL) rfl (Nat.le_of_ble_eq_true rfl) (Nat.le_of_ble_eq_true rfl) hc ?_
  refine ex_if (pc' := 11) dX12_meet_6 (by decide) (fun c => ?_) (fun c => ?_)
  · have h := h.1 c
    refine ex_step (pc' := 12) dX12_meet_11 rfl ?_
    obtain ⟨I2, hc, h⟩ := h
    refine ex_callV (as := []) (st := []) (ci := 12) dX12_meet_12 zmX12_copies zl_RX12_397 ziX12_copies zvX12_copies (by decide) (ly_a420 hL) rfl (Nat.le_of_ble_eq_true rfl) (Nat.le_of_ble_eq_true rfl) hc ?_
    refine ex_step (pc' := 16) (st' := [.int 0]) dX12_meet_15 rfl ?_
    refine ex_step (pc' := 17) (ls' := [some (.ref 420), some (.int x1), some (.int x2), some (.int 0)]) dX12_meet_16 rfl ?_
    exact h
  · have h := h.2 (Classical.not_not.mp c)
    refine ex_step (pc' := 10) (st' := [.int (-1)]) dX12_meet_9 rfl ?_
    rw [h]; exact ex_ret (v := some (.int (-1))) ⟨dX12_meet_10, _, rfl, rfl⟩
set_option maxHeartbeats 4000000 in
theorem BX12_meet_17 {d : Nat} {Z : zZ} {I : zI} {J : zJ} {o : zO} {t u : Nat} (x1 : Int32) (x2 : Int32) (x3 : Int32) (hL : zLY Z t u)  (h : ((200 < x3 → o = (some (.int (-2)), Z, I, J)) ∧ (¬ 200 < x3 → (vp_in x1 1290 ∧ (vp_in x2 1290 ∧ ((¬ (I 458 x1.toNatClampNeg) = (I 458 x2.toNatClampNeg) → (∃ (I1 : zI), zE (d + 5) kX12_minuteGoes 0 [some (.ref 420), none, none] [] Z I J (none, Z, I1, J) ∧ zE (d + 6) kX12_meet 17 [some (.ref 420), some (.int x1), some (.int x2), some (.int (x3 + 1))] [] Z I1 J o)) ∧ ((I 458 x1.toNatClampNeg) = (I 458 x2.toNatClampNeg) → (vp_in ((7 : Int32) + x1) 1290 ∧ (vp_in ((7 : Int32) + x2) 1290 ∧ ((¬ (I 458 ((7 : Int32) + x1).toNatClampNeg) = (I 458 ((7 : Int32) + x2).toNatClampNeg) → (∃ (I2 : zI), zE (d + 5) kX12_minuteGoes 0 [some (.ref 420), none, none] [] Z I J (none, Z, I2, J) ∧ zE (d + 6) kX12_meet 17 [some (.ref 420), some (.int x1), some (.int x2), some (.int (x3 + 1))] [] Z I2 J o)) ∧ ((I 458 ((7 : Int32) + x1).toNatClampNeg) = (I 458 ((7 : Int32) + x2).toNatClampNeg) → o = (some (.int x3), Z, I, J)))))))))))) : zE (d + 6) kX12_meet 17 [some (.ref 420), some (.int x1), some (.int x2), some (.int x3)] [] Z I J o := by
  refine ex_step (pc' := 18) dX12_meet_17 rfl ?_
  refine ex_step (pc' := 21) (st' := [.int 200, .int x3]) dX12_meet_18 rfl ?_
  refine ex_icmp (pc' := 72) dX12_meet_21 (by decide) (fun c => ?_) (fun c => ?_)
  · have h := h.1 c
    refine ex_step (pc' := 74) (st' := [.int (-2)]) dX12_meet_72 rfl ?_
    rw [h]; exact ex_ret (v := some (.int (-2))) ⟨dX12_meet_74, _, rfl, rfl⟩
  · have h := h.2 c
    refine ex_step (pc' := 25) dX12_meet_24 rfl ?_
    refine ex_getr dX12_meet_25 wf_RX12_131 (ly_a420 hL) rfl (ly_r420_56 hL) ?_
    refine ex_step (pc' := 29) dX12_meet_28 rfl ?_
    obtain ⟨hv, h⟩ := h
    refine ex_iald dX12_meet_29 (Or.inl (ly_a458 hL)) hv ?_
    refine ex_step (pc' := 31) dX12_meet_30 rfl ?_
    refine ex_getr dX12_meet_31 wf_RX12_131 (ly_a420 hL) rfl (ly_r420_56 hL) ?_
    refine ex_step (pc' := 35) dX12_meet_34 rfl ?_
    obtain ⟨hv, h⟩ := h
    refine ex_iald dX12_meet_35 (Or.inl (ly_a458 hL)) hv ?_
    refine ex_icmp (pc' := 62) dX12_meet_36 (by decide) (fun c => ?_) (fun c => ?_)
    · have h := h.1 c
      refine ex_step (pc' := 63) dX12_meet_62 rfl ?_
      obtain ⟨I1, hc, h⟩ := h
      refine ex_callV (as := []) (st := []) (ci := 12) dX12_meet_63 zmX12_minuteGoes zl_RX12_407 ziX12_minuteGoes zvX12_minuteGoes (by decide) (ly_a420 hL) rfl (Nat.le_of_ble_eq_true rfl) (Nat.le_of_ble_eq_true rfl) hc ?_
      refine ex_step (pc' := 69) (ls' := [some (.ref 420), some (.int x1), some (.int x2), some (.int (x3 + 1))]) dX12_meet_66 rfl ?_
      refine ex_step (pc' := 17) dX12_meet_69 rfl ?_
      exact h
    · have h := h.2 (Classical.not_not.mp c)
      refine ex_step (pc' := 40) dX12_meet_39 rfl ?_
      refine ex_getr dX12_meet_40 wf_RX12_131 (ly_a420 hL) rfl (ly_r420_56 hL) ?_
      refine ex_step (pc' := 45) (st' := [.int 7, .ref 458]) dX12_meet_43 rfl ?_
      refine ex_step (pc' := 46) dX12_meet_45 rfl ?_
      refine ex_step (pc' := 47) dX12_meet_46 rfl ?_
      obtain ⟨hv, h⟩ := h
      refine ex_iald dX12_meet_47 (Or.inl (ly_a458 hL)) hv ?_
      refine ex_step (pc' := 49) dX12_meet_48 rfl ?_
      refine ex_getr dX12_meet_49 wf_RX12_131 (ly_a420 hL) rfl (ly_r420_56 hL) ?_
      refine ex_step (pc' := 54) (st' := [.int 7, .ref 458, .int (I 458 ((7 : Int32) + x1).toNatClampNeg)]) dX12_meet_52 rfl ?_
      refine ex_step (pc' := 55) dX12_meet_54 rfl ?_
      refine ex_step (pc' := 56) dX12_meet_55 rfl ?_
      obtain ⟨hv, h⟩ := h
      refine ex_iald dX12_meet_56 (Or.inl (ly_a458 hL)) hv ?_
      refine ex_icmp (pc' := 62) dX12_meet_57 (by decide) (fun c => ?_) (fun c => ?_)
      · have h := h.1 c
        refine ex_step (pc' := 63) dX12_meet_62 rfl ?_
        obtain ⟨I2, hc, h⟩ := h
        refine ex_callV (as := []) (st := []) (ci := 12) dX12_meet_63 zmX12_minuteGoes zl_RX12_407 ziX12_minuteGoes zvX12_minuteGoes (by decide) (ly_a420 hL) rfl (Nat.le_of_ble_eq_true rfl) (Nat.le_of_ble_eq_true rfl) hc ?_
        refine ex_step (pc' := 69) (ls' := [some (.ref 420), some (.int x1), some (.int x2), some (.int (x3 + 1))]) dX12_meet_66 rfl ?_
        refine ex_step (pc' := 17) dX12_meet_69 rfl ?_
        exact h
      · have h := h.2 (Classical.not_not.mp c)
        refine ex_step (pc' := 61) dX12_meet_60 rfl ?_
        rw [h]; exact ex_ret (v := some (.int x3)) ⟨dX12_meet_61, _, rfl, rfl⟩
set_option maxHeartbeats 4000000 in
theorem BX12_overAll_0 {d : Nat} {Z : zZ} {I : zI} {J : zJ} {o : zO} {t u : Nat} (x1 : Int32) (hL : zLY Z t u)  (h : zE (d + 1) kX12_overAll 4 [some (.ref 420), some (.int x1), some (.int 0), some (.int 0)] [] Z I J o) : zE (d + 1) kX12_overAll 0 [some (.ref 420), some (.int x1), none, none] [] Z I J o := by
  refine ex_step (pc' := 1) (st' := [.int 0]) dX12_overAll_0 rfl ?_
  refine ex_step (pc' := 2) (ls' := [some (.ref 420), some (.int x1), some (.int 0), none]) dX12_overAll_1 rfl ?_
  refine ex_step (pc' := 3) (st' := [.int 0]) dX12_overAll_2 rfl ?_
  refine ex_step (pc' := 4) (ls' := [some (.ref 420), some (.int x1), some (.int 0), some (.int 0)]) dX12_overAll_3 rfl ?_
  exact h
set_option maxHeartbeats 4000000 in
theorem BX12_overAll_4 {d : Nat} {Z : zZ} {I : zI} {J : zJ} {o : zO} {t u : Nat} (x1 : Int32) (x2 : Int32) (x3 : Int32) (hL : zLY Z t u)  (h : (vp_in (I 420 18) 2 ∧ (((I 431 (I 420 18).toNatClampNeg) ≤ x3 → o = (some (.int x2), Z, I, J)) ∧ (¬ (I 431 (I 420 18).toNatClampNeg) ≤ x3 → ((x3 = x1 → zE (d + 1) kX12_overAll 4 [some (.ref 420), some (.int x1), some (.int x2), some (.int (x3 + 1))] [] Z I J o) ∧ (¬ x3 = x1 → (∃ (v1 : Int32), zE d kX12_overOf 0 [some (.ref 420), some (.int x1), some (.int x3), none, none, none, none, none] [] Z I J (some (.int v1), Z, I, J) ∧ zE (d + 1) kX12_overAll 4 [some (.ref 420), some (.int x1), some (.int (x2 + v1)), some (.int (x3 + 1))] [] Z I J o))))))) : zE (d + 1) kX12_overAll 4 [some (.ref 420), some (.int x1), some (.int x2), some (.int x3)] [] Z I J o := by
  refine ex_step (pc' := 5) dX12_overAll_4 rfl ?_
  refine ex_step (pc' := 6) dX12_overAll_5 rfl ?_
  refine ex_getr dX12_overAll_6 wf_RX12_49 (ly_a420 hL) rfl (ly_r420_24 hL) ?_
  refine ex_step (pc' := 10) dX12_overAll_9 rfl ?_
  refine ex_geti dX12_overAll_10 wf_RX12_258 (ly_a420 hL) rfl ?_
  obtain ⟨hv, h⟩ := h
  refine ex_iald dX12_overAll_13 (Or.inl (ly_a431 hL)) hv ?_
  refine ex_icmp (pc' := 37) dX12_overAll_14 (by decide) (fun c => ?_) (fun c => ?_)
  · have h := h.1 c
    refine ex_step (pc' := 38) dX12_overAll_37 rfl ?_
    rw [h]; exact ex_ret (v := some (.int x2)) ⟨dX12_overAll_38, _, rfl, rfl⟩
  · have h := h.2 c
    refine ex_step (pc' := 18) dX12_overAll_17 rfl ?_
    refine ex_step (pc' := 19) dX12_overAll_18 rfl ?_
    refine ex_icmp (pc' := 31) dX12_overAll_19 (by decide) (fun c => ?_) (fun c => ?_)
    · have h := h.1 c
      refine ex_step (pc' := 34) (ls' := [some (.ref 420), some (.int x1), some (.int x2), some (.int (x3 + 1))]) dX12_overAll_31 rfl ?_
      refine ex_step (pc' := 4) dX12_overAll_34 rfl ?_
      exact h
    · have h := h.2 c
      refine ex_step (pc' := 23) dX12_overAll_22 rfl ?_
      refine ex_step (pc' := 24) dX12_overAll_23 rfl ?_
      refine ex_step (pc' := 25) dX12_overAll_24 rfl ?_
      refine ex_step (pc' := 26) dX12_overAll_25 rfl ?_
      obtain ⟨v1, hc, h⟩ := h
      refine ex_callV (as := [.int x1, .int x3]) (st := [.int x2]) (ci := 12) dX12_overAll_26 zmX12_overOf zl_RX12_410 ziX12_overOf zvX12_overOf (by decide) (ly_a420 hL) rfl (Nat.le_of_ble_eq_true rfl) (Nat.le_of_ble_eq_true rfl) hc ?_
      refine ex_step (pc' := 30) dX12_overAll_29 rfl ?_
      refine ex_step (pc' := 31) (ls' := [some (.ref 420), some (.int x1), some (.int (x2 + v1)), some (.int x3)]) dX12_overAll_30 rfl ?_
      refine ex_step (pc' := 34) (ls' := [some (.ref 420), some (.int x1), some (.int (x2 + v1)), some (.int (x3 + 1))]) dX12_overAll_31 rfl ?_
      refine ex_step (pc' := 4) dX12_overAll_34 rfl ?_
      exact h
set_option maxHeartbeats 4000000 in
theorem BX12_most_0 {d : Nat} {Z : zZ} {I : zI} {J : zJ} {o : zO} {t u : Nat} (x1 : Int32) (hL : zLY Z t u)  (h : ((¬ (zbi (0 ≤ x1 ∧ x1 ≤ 1)) = 0 → (vp_in (I 420 18) 2 ∧ ((¬ (I 431 (I 420 18).toNatClampNeg) = 0 → (∃ (I1 : zI), zE (d + 1) kX12_copies 0 [some (.ref 420), none] [] Z I J (none, Z, I1, J) ∧ zE (d + 2) kX12_most 34 [some (.ref 420), some (.int x1), some (.int 0), some (.int 1)] [] Z I1 J o)) ∧ ((I 431 (I 420 18).toNatClampNeg) = 0 → o = (some (.int (-2)), Z, I, J))))) ∧ ((zbi (0 ≤ x1 ∧ x1 ≤ 1)) = 0 → o = (some (.int (-1)), Z, I, J)))) : zE (d + 2) kX12_most 0 [some (.ref 420), some (.int x1), none, none] [] Z I J o := by
  refine ex_step (pc' := 1) dX12_most_0 rfl ?_
  refine ex_step (pc' := 2) (st' := [.int 0, .int x1]) dX12_most_1 rfl ?_
  refine ex_step (pc' := 3) (st' := [.int 1, .int 0, .int x1]) dX12_most_2 rfl ?_
  refine ex_callS (as := [.int x1, .int 0, .int 1]) (st := []) dX12_most_3 zmX12_in zl_RX12_345 zsX12_in rfl (Nat.le_of_ble_eq_true rfl) (Nat.le_of_ble_eq_true rfl) M_in ?_
  refine ex_if (pc' := 11) dX12_most_6 (by decide) (fun c => ?_) (fun c => ?_)
  · have h := h.1 c
    refine ex_step (pc' := 12) dX12_most_11 rfl ?_
    refine ex_getr dX12_most_12 wf_RX12_49 (ly_a420 hL) rfl (ly_r420_24 hL) ?_
    refine ex_step (pc' := 16) dX12_most_15 rfl ?_
    refine ex_geti dX12_most_16 wf_RX12_258 (ly_a420 hL) rfl ?_
    obtain ⟨hv, h⟩ := h
    refine ex_iald dX12_most_19 (Or.inl (ly_a431 hL)) hv ?_
    refine ex_if (pc' := 26) dX12_most_20 (by decide) (fun c => ?_) (fun c => ?_)
    · have h := h.1 c
      refine ex_step (pc' := 27) dX12_most_26 rfl ?_
      obtain ⟨I1, hc, h⟩ := h
      refine ex_callV (as := []) (st := []) (ci := 12) dX12_most_27 zmX12_copies zl_RX12_397 ziX12_copies zvX12_copies (by decide) (ly_a420 hL) rfl (Nat.le_of_ble_eq_true rfl) (Nat.le_of_ble_eq_true rfl) hc ?_
      refine ex_step (pc' := 31) (st' := [.int 0]) dX12_most_30 rfl ?_
      refine ex_step (pc' := 32) (ls' := [some (.ref 420), some (.int x1), some (.int 0), none]) dX12_most_31 rfl ?_
      refine ex_step (pc' := 33) (st' := [.int 1]) dX12_most_32 rfl ?_
      refine ex_step (pc' := 34) (ls' := [some (.ref 420), some (.int x1), some (.int 0), some (.int 1)]) dX12_most_33 rfl ?_
      exact h
    · have h := h.2 (Classical.not_not.mp c)
      refine ex_step (pc' := 25) (st' := [.int (-2)]) dX12_most_23 rfl ?_
      rw [h]; exact ex_ret (v := some (.int (-2))) ⟨dX12_most_25, _, rfl, rfl⟩
  · have h := h.2 (Classical.not_not.mp c)
    refine ex_step (pc' := 10) (st' := [.int (-1)]) dX12_most_9 rfl ?_
    rw [h]; exact ex_ret (v := some (.int (-1))) ⟨dX12_most_10, _, rfl, rfl⟩
set_option maxHeartbeats 4000000 in
theorem BX12_most_34 {d : Nat} {Z : zZ} {I : zI} {J : zJ} {o : zO} {t u : Nat} (x1 : Int32) (x2 : Int32) (x3 : Int32) (hL : zLY Z t u)  (h : (vp_in (I 420 18) 2 ∧ (((I 431 (I 420 18).toNatClampNeg) ≤ x3 → ((¬ x1 = 0 → (∃ (v1 : Int32), zE (d + 1) kX12_overAll 0 [some (.ref 420), some (.int x2), none, none] [] Z I J (some (.int v1), Z, I, J) ∧ o = (some (.int v1), Z, I, J))) ∧ (x1 = 0 → o = (some (.int x2), Z, I, J)))) ∧ (¬ (I 431 (I 420 18).toNatClampNeg) ≤ x3 → (∃ (v2 : Int32), zE (d + 1) kX12_overAll 0 [some (.ref 420), some (.int x3), none, none] [] Z I J (some (.int v2), Z, I, J) ∧ (∃ (v3 : Int32), zE (d + 1) kX12_overAll 0 [some (.ref 420), some (.int x2), none, none] [] Z I J (some (.int v3), Z, I, J) ∧ ((v2 ≤ v3 → zE (d + 2) kX12_most 34 [some (.ref 420), some (.int x1), some (.int x2), some (.int (x3 + 1))] [] Z I J o) ∧ (¬ v2 ≤ v3 → zE (d + 2) kX12_most 34 [some (.ref 420), some (.int x1), some (.int x3), some (.int (x3 + 1))] [] Z I J o)))))))) : zE (d + 2) kX12_most 34 [some (.ref 420), some (.int x1), some (.int x2), some (.int x3)] [] Z I J o := by
  refine ex_step (pc' := 35) dX12_most_34 rfl ?_
  refine ex_step (pc' := 36) dX12_most_35 rfl ?_
  refine ex_getr dX12_most_36 wf_RX12_49 (ly_a420 hL) rfl (ly_r420_24 hL) ?_
  refine ex_step (pc' := 40) dX12_most_39 rfl ?_
  refine ex_geti dX12_most_40 wf_RX12_258 (ly_a420 hL) rfl ?_
  obtain ⟨hv, h⟩ := h
  refine ex_iald dX12_most_43 (Or.inl (ly_a431 hL)) hv ?_
  refine ex_icmp (pc' := 68) dX12_most_44 (by decide) (fun c => ?_) (fun c => ?_)
  · have h := h.1 c
    refine ex_step (pc' := 69) dX12_most_68 rfl ?_
    refine ex_if (pc' := 76) dX12_most_69 (by decide) (fun c => ?_) (fun c => ?_)
    · have h := h.1 c
      refine ex_step (pc' := 77) dX12_most_76 rfl ?_
      refine ex_step (pc' := 78) dX12_most_77 rfl ?_
      obtain ⟨v1, hc, h⟩ := h
      refine ex_callV (as := [.int x2]) (st := []) (ci := 12) dX12_most_78 zmX12_overAll zl_RX12_440 ziX12_overAll zvX12_overAll (by decide) (ly_a420 hL) rfl (Nat.le_of_ble_eq_true rfl) (Nat.le_of_ble_eq_true rfl) hc ?_
      rw [h]; exact ex_ret (v := some (.int v1)) ⟨dX12_most_81, _, rfl, rfl⟩
    · have h := h.2 (Classical.not_not.mp c)
      refine ex_step (pc' := 73) dX12_most_72 rfl ?_
      refine ex_step (pc' := 81) dX12_most_73 rfl ?_
      rw [h]; exact ex_ret (v := some (.int x2)) ⟨dX12_most_81, _, rfl, rfl⟩
  · have h := h.2 c
    refine ex_step (pc' := 48) dX12_most_47 rfl ?_
    refine ex_step (pc' := 49) dX12_most_48 rfl ?_
    obtain ⟨v2, hc, h⟩ := h
    refine ex_callV (as := [.int x3]) (st := []) (ci := 12) dX12_most_49 zmX12_overAll zl_RX12_440 ziX12_overAll zvX12_overAll (by decide) (ly_a420 hL) rfl (Nat.le_of_ble_eq_true rfl) (Nat.le_of_ble_eq_true rfl) hc ?_
    refine ex_step (pc' := 53) dX12_most_52 rfl ?_
    refine ex_step (pc' := 54) dX12_most_53 rfl ?_
    obtain ⟨v3, hc, h⟩ := h
    refine ex_callV (as := [.int x2]) (st := [.int v2]) (ci := 12) dX12_most_54 zmX12_overAll zl_RX12_440 ziX12_overAll zvX12_overAll (by decide) (ly_a420 hL) rfl (Nat.le_of_ble_eq_true rfl) (Nat.le_of_ble_eq_true rfl) hc ?_
    refine ex_icmp (pc' := 62) dX12_most_57 (by decide) (fun c => ?_) (fun c => ?_)
    · have h := h.1 c
      refine ex_step (pc' := 65) (ls' := [some (.ref 420), some (.int x1), some (.int x2), some (.int (x3 + 1))]) dX12_most_62 rfl ?_
      refine ex_step (pc' := 34) dX12_most_65 rfl ?_
      exact h
    · have h := h.2 c
      refine ex_step (pc' := 61) dX12_most_60 rfl ?_
      refine ex_step (pc' := 62) (ls' := [some (.ref 420), some (.int x1), some (.int x3), some (.int x3)]) dX12_most_61 rfl ?_
      refine ex_step (pc' := 65) (ls' := [some (.ref 420), some (.int x1), some (.int x3), some (.int (x3 + 1))]) dX12_most_62 rfl ?_
      refine ex_step (pc' := 34) dX12_most_65 rfl ?_
      exact h
set_option maxHeartbeats 4000000 in
theorem BX12_unfair_0 {d : Nat} {Z : zZ} {I : zI} {J : zJ} {o : zO} {t u : Nat}  (hL : zLY Z t u)  (h : (vp_in (I 420 18) 2 ∧ ((¬ (I 431 (I 420 18).toNatClampNeg) = 0 → (∃ (I1 : zI), zE (d + 1) kX12_copies 0 [some (.ref 420), none] [] Z I J (none, Z, I1, J) ∧ (∃ (v2 : Int32), zE (d + 1) kX12_overAll 0 [some (.ref 420), some (.int 0), none, none] [] Z I1 J (some (.int v2), Z, I1, J) ∧ zE (d + 2) kX12_unfair 28 [some (.ref 420), some (.int v2), some (.int v2), some (.int 1)] [] Z I1 J o))) ∧ ((I 431 (I 420 18).toNatClampNeg) = 0 → o = (some (.int 0), Z, I, J))))) : zE (d + 2) kX12_unfair 0 [some (.ref 420), none, none, none] [] Z I J o := by
  refine ex_step (pc' := 1) dX12_unfair_0 rfl ?_
  refine ex_getr dX12_unfair_1 wf_RX12_49 (ly_a420 hL) rfl (ly_r420_24 hL) ?_
  refine ex_step (pc' := 5) dX12_unfair_4 rfl ?_
  refine ex_geti dX12_unfair_5 wf_RX12_258 (ly_a420 hL) rfl ?_
  obtain ⟨hv, h⟩ := h
  refine ex_iald dX12_unfair_8 (Or.inl (ly_a431 hL)) hv ?_
  refine ex_if (pc' := 14) dX12_unfair_9 (by decide) (fun c => ?_) (fun c => ?_)
  · have h := h.1 c
    refine ex_step (pc' := 15) dX12_unfair_14 rfl ?_
    obtain ⟨I1, hc, h⟩ := h
    refine ex_callV (as := []) (st := []) (ci := 12) dX12_unfair_15 zmX12_copies zl_RX12_397 ziX12_copies zvX12_copies (by decide) (ly_a420 hL) rfl (Nat.le_of_ble_eq_true rfl) (Nat.le_of_ble_eq_true rfl) hc ?_
    refine ex_step (pc' := 19) dX12_unfair_18 rfl ?_
    refine ex_step (pc' := 20) (st' := [.int 0, .ref 420]) dX12_unfair_19 rfl ?_
    obtain ⟨v2, hc, h⟩ := h
    refine ex_callV (as := [.int 0]) (st := []) (ci := 12) dX12_unfair_20 zmX12_overAll zl_RX12_440 ziX12_overAll zvX12_overAll (by decide) (ly_a420 hL) rfl (Nat.le_of_ble_eq_true rfl) (Nat.le_of_ble_eq_true rfl) hc ?_
    refine ex_step (pc' := 24) (ls' := [some (.ref 420), some (.int v2), none, none]) dX12_unfair_23 rfl ?_
    refine ex_step (pc' := 25) dX12_unfair_24 rfl ?_
    refine ex_step (pc' := 26) (ls' := [some (.ref 420), some (.int v2), some (.int v2), none]) dX12_unfair_25 rfl ?_
    refine ex_step (pc' := 27) (st' := [.int 1]) dX12_unfair_26 rfl ?_
    refine ex_step (pc' := 28) (ls' := [some (.ref 420), some (.int v2), some (.int v2), some (.int 1)]) dX12_unfair_27 rfl ?_
    exact h
  · have h := h.2 (Classical.not_not.mp c)
    refine ex_step (pc' := 13) (st' := [.int 0]) dX12_unfair_12 rfl ?_
    rw [h]; exact ex_ret (v := some (.int 0)) ⟨dX12_unfair_13, _, rfl, rfl⟩
set_option maxHeartbeats 4000000 in
theorem BX12_unfair_28 {d : Nat} {Z : zZ} {I : zI} {J : zJ} {o : zO} {t u : Nat} (x1 : Int32) (x2 : Int32) (x3 : Int32) (hL : zLY Z t u)  (h : (vp_in (I 420 18) 2 ∧ (((I 431 (I 420 18).toNatClampNeg) ≤ x3 → o = (some (.int (x2 - x1)), Z, I, J)) ∧ (¬ (I 431 (I 420 18).toNatClampNeg) ≤ x3 → (∃ (v1 : Int32), zE (d + 1) kX12_overAll 0 [some (.ref 420), some (.int x3), none, none] [] Z I J (some (.int v1), Z, I, J) ∧ ((x1 ≤ v1 → (∃ (v2 : Int32), zE (d + 1) kX12_overAll 0 [some (.ref 420), some (.int x3), none, none] [] Z I J (some (.int v2), Z, I, J) ∧ ((v2 ≤ x2 → zE (d + 2) kX12_unfair 28 [some (.ref 420), some (.int x1), some (.int x2), some (.int (x3 + 1))] [] Z I J o) ∧ (¬ v2 ≤ x2 → (∃ (v3 : Int32), zE (d + 1) kX12_overAll 0 [some (.ref 420), some (.int x3), none, none] [] Z I J (some (.int v3), Z, I, J) ∧ zE (d + 2) kX12_unfair 28 [some (.ref 420), some (.int x1), some (.int v3), some (.int (x3 + 1))] [] Z I J o))))) ∧ (¬ x1 ≤ v1 → (∃ (v4 : Int32), zE (d + 1) kX12_overAll 0 [some (.ref 420), some (.int x3), none, none] [] Z I J (some (.int v4), Z, I, J) ∧ (∃ (v5 : Int32), zE (d + 1) kX12_overAll 0 [some (.ref 420), some (.int x3), none, none] [] Z I J (some (.int v5), Z, I, J) ∧ ((v5 ≤ x2 → zE (d + 2) kX12_unfair 28 [some (.ref 420), some (.int v4), some (.int x2), some (.int (x3 + 1))] [] Z I J o) ∧ (¬ v5 ≤ x2 → (∃ (v6 : Int32), zE (d + 1) kX12_overAll 0 [some (.ref 420), some (.int x3), none, none] [] Z I J (some (.int v6), Z, I, J) ∧ zE (d + 2) kX12_unfair 28 [some (.ref 420), some (.int v4), some (.int v6), some (.int (x3 + 1))] [] Z I J o)))))))))))) : zE (d + 2) kX12_unfair 28 [some (.ref 420), some (.int x1), some (.int x2), some (.int x3)] [] Z I J o := by
  refine ex_step (pc' := 29) dX12_unfair_28 rfl ?_
  refine ex_step (pc' := 30) dX12_unfair_29 rfl ?_
  refine ex_getr dX12_unfair_30 wf_RX12_49 (ly_a420 hL) rfl (ly_r420_24 hL) ?_
  refine ex_step (pc' := 34) dX12_unfair_33 rfl ?_
  refine ex_geti dX12_unfair_34 wf_RX12_258 (ly_a420 hL) rfl ?_
  obtain ⟨hv, h⟩ := h
  refine ex_iald dX12_unfair_37 (Or.inl (ly_a431 hL)) hv ?_
  refine ex_icmp (pc' := 77) dX12_unfair_38 (by decide) (fun c => ?_) (fun c => ?_)
  · have h := h.1 c
    refine ex_step (pc' := 78) dX12_unfair_77 rfl ?_
    refine ex_step (pc' := 79) dX12_unfair_78 rfl ?_
    refine ex_step (pc' := 80) dX12_unfair_79 rfl ?_
    rw [h]; exact ex_ret (v := some (.int (x2 - x1))) ⟨dX12_unfair_80, _, rfl, rfl⟩
  · have h := h.2 c
    refine ex_step (pc' := 42) dX12_unfair_41 rfl ?_
    refine ex_step (pc' := 43) dX12_unfair_42 rfl ?_
    obtain ⟨v1, hc, h⟩ := h
    refine ex_callV (as := [.int x3]) (st := []) (ci := 12) dX12_unfair_43 zmX12_overAll zl_RX12_440 ziX12_overAll zvX12_overAll (by decide) (ly_a420 hL) rfl (Nat.le_of_ble_eq_true rfl) (Nat.le_of_ble_eq_true rfl) hc ?_
    refine ex_step (pc' := 47) dX12_unfair_46 rfl ?_
    refine ex_icmp (pc' := 56) dX12_unfair_47 (by decide) (fun c => ?_) (fun c => ?_)
    · have h := h.1 c
      refine ex_step (pc' := 57) dX12_unfair_56 rfl ?_
      refine ex_step (pc' := 58) dX12_unfair_57 rfl ?_
      obtain ⟨v2, hc, h⟩ := h
      refine ex_callV (as := [.int x3]) (st := []) (ci := 12) dX12_unfair_58 zmX12_overAll zl_RX12_440 ziX12_overAll zvX12_overAll (by decide) (ly_a420 hL) rfl (Nat.le_of_ble_eq_true rfl) (Nat.le_of_ble_eq_true rfl) hc ?_
      refine ex_step (pc' := 62) dX12_unfair_61 rfl ?_
      refine ex_icmp (pc' := 71) dX12_unfair_62 (by decide) (fun c => ?_) (fun c => ?_)
      · have h := h.1 c
        refine ex_step (pc' := 74) (ls' := [some (.ref 420), some (.int x1), some (.int x2), some (.int (x3 + 1))]) dX12_unfair_71 rfl ?_
        refine ex_step (pc' := 28) dX12_unfair_74 rfl ?_
        exact h
      · have h := h.2 c
        refine ex_step (pc' := 66) dX12_unfair_65 rfl ?_
        refine ex_step (pc' := 67) dX12_unfair_66 rfl ?_
        obtain ⟨v3, hc, h⟩ := h
        refine ex_callV (as := [.int x3]) (st := []) (ci := 12) dX12_unfair_67 zmX12_overAll zl_RX12_440 ziX12_overAll zvX12_overAll (by decide) (ly_a420 hL) rfl (Nat.le_of_ble_eq_true rfl) (Nat.le_of_ble_eq_true rfl) hc ?_
        refine ex_step (pc' := 71) (ls' := [some (.ref 420), some (.int x1), some (.int v3), some (.int x3)]) dX12_unfair_70 rfl ?_
        refine ex_step (pc' := 74) (ls' := [some (.ref 420), some (.int x1), some (.int v3), some (.int (x3 + 1))]) dX12_unfair_71 rfl ?_
        refine ex_step (pc' := 28) dX12_unfair_74 rfl ?_
        exact h
    · have h := h.2 c
      refine ex_step (pc' := 51) dX12_unfair_50 rfl ?_
      refine ex_step (pc' := 52) dX12_unfair_51 rfl ?_
      obtain ⟨v4, hc, h⟩ := h
      refine ex_callV (as := [.int x3]) (st := []) (ci := 12) dX12_unfair_52 zmX12_overAll zl_RX12_440 ziX12_overAll zvX12_overAll (by decide) (ly_a420 hL) rfl (Nat.le_of_ble_eq_true rfl) (Nat.le_of_ble_eq_true rfl) hc ?_
      refine ex_step (pc' := 56) (ls' := [some (.ref 420), some (.int v4), some (.int x2), some (.int x3)]) dX12_unfair_55 rfl ?_
      refine ex_step (pc' := 57) dX12_unfair_56 rfl ?_
      refine ex_step (pc' := 58) dX12_unfair_57 rfl ?_
      obtain ⟨v5, hc, h⟩ := h
      refine ex_callV (as := [.int x3]) (st := []) (ci := 12) dX12_unfair_58 zmX12_overAll zl_RX12_440 ziX12_overAll zvX12_overAll (by decide) (ly_a420 hL) rfl (Nat.le_of_ble_eq_true rfl) (Nat.le_of_ble_eq_true rfl) hc ?_
      refine ex_step (pc' := 62) dX12_unfair_61 rfl ?_
      refine ex_icmp (pc' := 71) dX12_unfair_62 (by decide) (fun c => ?_) (fun c => ?_)
      · have h := h.1 c
        refine ex_step (pc' := 74) (ls' := [some (.ref 420), some (.int v4), some (.int x2), some (.int (x3 + 1))]) dX12_unfair_71 rfl ?_
        refine ex_step (pc' := 28) dX12_unfair_74 rfl ?_
        exact h
      · have h := h.2 c
        refine ex_step (pc' := 66) dX12_unfair_65 rfl ?_
        refine ex_step (pc' := 67) dX12_unfair_66 rfl ?_
        obtain ⟨v6, hc, h⟩ := h
        refine ex_callV (as := [.int x3]) (st := []) (ci := 12) dX12_unfair_67 zmX12_overAll zl_RX12_440 ziX12_overAll zvX12_overAll (by decide) (ly_a420 hL) rfl (Nat.le_of_ble_eq_true rfl) (Nat.le_of_ble_eq_true rfl) hc ?_
        refine ex_step (pc' := 71) (ls' := [some (.ref 420), some (.int v4), some (.int v6), some (.int x3)]) dX12_unfair_70 rfl ?_
        refine ex_step (pc' := 74) (ls' := [some (.ref 420), some (.int v4), some (.int v6), some (.int (x3 + 1))]) dX12_unfair_71 rfl ?_
        refine ex_step (pc' := 28) dX12_unfair_74 rfl ?_
        exact h
set_option maxHeartbeats 4000000 in
theorem BX12_nearest_0 {d : Nat} {Z : zZ} {I : zI} {J : zJ} {o : zO} {t u : Nat} (x1 : Int32) (x2 : Int32) (hL : zLY Z t u)  (h : (∃ (v1 : Int32), zE (d + 1) kX12_isMan 0 [some (.ref 420), some (.int x1)] [] Z I J (some (.int v1), Z, I, J) ∧ ((v1 = 0 → o = (some (.int (-1)), Z, I, J)) ∧ (¬ v1 = 0 → ((¬ (zbi (0 ≤ x2 ∧ x2 ≤ 1)) = 0 → zE (d + 2) kX12_nearest 29 [some (.ref 420), some (.int x1), some (.int x2), some (.int (-2)), some (.int (-2)), some (.int 0), none] [] Z I J o) ∧ ((zbi (0 ≤ x2 ∧ x2 ≤ 1)) = 0 → o = (some (.int (-1)), Z, I, J))))))) : zE (d + 2) kX12_nearest 0 [some (.ref 420), some (.int x1), some (.int x2), none, none, none, none] [] Z I J o := by
  refine ex_step (pc' := 1) dX12_nearest_0 rfl ?_
  refine ex_step (pc' := 2) dX12_nearest_1 rfl ?_
  obtain ⟨v1, hc, h⟩ := h
  refine ex_callV (as := [.int x1]) (st := []) (ci := 12) dX12_nearest_2 zmX12_isMan zl_RX12_394 ziX12_isMan zvX12_isMan (by decide) (ly_a420 hL) rfl (Nat.le_of_ble_eq_true rfl) (Nat.le_of_ble_eq_true rfl) hc ?_
  refine ex_if (pc' := 17) dX12_nearest_5 (by decide) (fun c => ?_) (fun c => ?_)
  · have h := h.1 c
    refine ex_step (pc' := 18) (st' := [.int (-1)]) dX12_nearest_17 rfl ?_
    rw [h]; exact ex_ret (v := some (.int (-1))) ⟨dX12_nearest_18, _, rfl, rfl⟩
  · have h := h.2 c
    refine ex_step (pc' := 9) dX12_nearest_8 rfl ?_
    refine ex_step (pc' := 10) (st' := [.int 0, .int x2]) dX12_nearest_9 rfl ?_
    refine ex_step (pc' := 11) (st' := [.int 1, .int 0, .int x2]) dX12_nearest_10 rfl ?_
    refine ex_callS (as := [.int x2, .int 0, .int 1]) (st := []) dX12_nearest_11 zmX12_in zl_RX12_345 zsX12_in rfl (Nat.le_of_ble_eq_true rfl) (Nat.le_of_ble_eq_true rfl) M_in ?_
    refine ex_if (pc' := 19) dX12_nearest_14 (by decide) (fun c => ?_) (fun c => ?_)
    · have h := h.1 c
      refine ex_step (pc' := 21) (st' := [.int (-2)]) dX12_nearest_19 rfl ?_
      refine ex_step (pc' := 22) (ls' := [some (.ref 420), some (.int x1), some (.int x2), some (.int (-2)), none, none, none]) dX12_nearest_21 rfl ?_
      refine ex_step (pc' := 24) (st' := [.int (-2)]) dX12_nearest_22 rfl ?_
      refine ex_step (pc' := 26) (ls' := [some (.ref 420), some (.int x1), some (.int x2), some (.int (-2)), some (.int (-2)), none, none]) dX12_nearest_24 rfl ?_
      refine ex_step (pc' := 27) (st' := [.int 0]) dX12_nearest_26 rfl ?_
      refine ex_step (pc' := 29) (ls' := [some (.ref 420), some (.int x1), some (.int x2), some (.int (-2)), some (.int (-2)), some (.int 0), none]) dX12_nearest_27 rfl ?_
      exact h
    · have h := h.2 (Classical.not_not.mp c)
      refine ex_step (pc' := 18) (st' := [.int (-1)]) dX12_nearest_17 rfl ?_
      rw [h]; exact ex_ret (v := some (.int (-1))) ⟨dX12_nearest_18, _, rfl, rfl⟩
set_option maxHeartbeats 4000000 in
theorem BX12_nearest_29 {d : Nat} {Z : zZ} {I : zI} {J : zJ} {o : zO} {t u : Nat} (x1 : Int32) (x2 : Int32) (x3 : Int32) (x4 : Int32) (x5 : Int32) (hL : zLY Z t u)  (h : (vp_in (I 420 18) 2 ∧ (((I 431 (I 420 18).toNatClampNeg) ≤ x5 → ((¬ x2 = 0 → o = (some (.int x4), Z, I, J)) ∧ (x2 = 0 → o = (some (.int x3), Z, I, J)))) ∧ (¬ (I 431 (I 420 18).toNatClampNeg) ≤ x5 → (vp_in x1 1290 ∧ (vp_in x5 1290 ∧ (vp_in ((7 : Int32) + x1) 1290 ∧ (vp_in ((7 : Int32) + x5) 1290 ∧ (∀ y1 : Int32, y1 = ((zap (I 457 x1.toNatClampNeg) (I 457 x5.toNatClampNeg)) + (zap (I 457 ((7 : Int32) + x1).toNatClampNeg) (I 457 ((7 : Int32) + x5).toNatClampNeg))) → ((x5 = x1 → zE (d + 2) kX12_nearest 29 [some (.ref 420), some (.int x1), some (.int x2), some (.int x3), some (.int x4), some (.int (x5 + 1)), none] [] Z I J o) ∧ (¬ x5 = x1 → ((x3 < 0 → zE (d + 2) kX12_nearest 29 [some (.ref 420), some (.int x1), some (.int x2), some (.int x5), some (.int y1), some (.int (x5 + 1)), none] [] Z I J o) ∧ (¬ x3 < 0 → ((y1 < x4 → zE (d + 2) kX12_nearest 29 [some (.ref 420), some (.int x1), some (.int x2), some (.int x5), some (.int y1), some (.int (x5 + 1)), none] [] Z I J o) ∧ (¬ y1 < x4 → zE (d + 2) kX12_nearest 29 [some (.ref 420), some (.int x1), some (.int x2), some (.int x3), some (.int x4), some (.int (x5 + 1)), none] [] Z I J o))))))))))))))) : zE (d + 2) kX12_nearest 29 [some (.ref 420), some (.int x1), some (.int x2), some (.int x3), some (.int x4), some (.int x5), none] [] Z I J o := by
  refine ex_step (pc' := 31) dX12_nearest_29 rfl ?_
  refine ex_step (pc' := 32) dX12_nearest_31 rfl ?_
  refine ex_getr dX12_nearest_32 wf_RX12_49 (ly_a420 hL) rfl (ly_r420_24 hL) ?_
  refine ex_step (pc' := 36) dX12_nearest_35 rfl ?_
  refine ex_geti dX12_nearest_36 wf_RX12_258 (ly_a420 hL) rfl ?_
  obtain ⟨hv, h⟩ := h
  refine ex_iald dX12_nearest_39 (Or.inl (ly_a431 hL)) hv ?_
  refine ex_icmp (pc' := 117) dX12_nearest_40 (by decide) (fun c => ?_) (fun c => ?_)
  · have h := h.1 c
    refine ex_step (pc' := 118) dX12_nearest_117 rfl ?_
    refine ex_if (pc' := 125) dX12_nearest_118 (by decide) (fun c => ?_) (fun c => ?_)
    · have h := h.1 c
      refine ex_step (pc' := 127) dX12_nearest_125 rfl ?_
      rw [h]; exact ex_ret (v := some (.int x4)) ⟨dX12_nearest_127, _, rfl, rfl⟩
    · have h := h.2 (Classical.not_not.mp c)
      refine ex_step (pc' := 122) dX12_nearest_121 rfl ?_
      refine ex_step (pc' := 127) dX12_nearest_122 rfl ?_
      rw [h]; exact ex_ret (v := some (.int x3)) ⟨dX12_nearest_127, _, rfl, rfl⟩
  · have h := h.2 c
    refine ex_step (pc' := 44) dX12_nearest_43 rfl ?_
    refine ex_getr dX12_nearest_44 wf_RX12_128 (ly_a420 hL) rfl (ly_r420_55 hL) ?_
    refine ex_step (pc' := 48) dX12_nearest_47 rfl ?_
    obtain ⟨hv, h⟩ := h
    refine ex_iald dX12_nearest_48 (Or.inl (ly_a457 hL)) hv ?_
    refine ex_step (pc' := 50) dX12_nearest_49 rfl ?_
    refine ex_getr dX12_nearest_50 wf_RX12_128 (ly_a420 hL) rfl (ly_r420_55 hL) ?_
    refine ex_step (pc' := 55) dX12_nearest_53 rfl ?_
    obtain ⟨hv, h⟩ := h
    refine ex_iald dX12_nearest_55 (Or.inl (ly_a457 hL)) hv ?_
    refine ex_callS (as := [.int (I 457 x1.toNatClampNeg), .int (I 457 x5.toNatClampNeg)]) (st := []) dX12_nearest_56 zmX12_apart zl_RX12_400 zsX12_apart rfl (Nat.le_of_ble_eq_true rfl) (Nat.le_of_ble_eq_true rfl) M_apart ?_
    refine ex_step (pc' := 60) dX12_nearest_59 rfl ?_
    refine ex_getr dX12_nearest_60 wf_RX12_128 (ly_a420 hL) rfl (ly_r420_55 hL) ?_
    refine ex_step (pc' := 65) (st' := [.int 7, .ref 457, .int (zap (I 457 x1.toNatClampNeg) (I 457 x5.toNatClampNeg))]) dX12_nearest_63 rfl ?_
    refine ex_step (pc' := 66) dX12_nearest_65 rfl ?_
    refine ex_step (pc' := 67) dX12_nearest_66 rfl ?_
    obtain ⟨hv, h⟩ := h
    refine ex_iald dX12_nearest_67 (Or.inl (ly_a457 hL)) hv ?_
    refine ex_step (pc' := 69) dX12_nearest_68 rfl ?_
    refine ex_getr dX12_nearest_69 wf_RX12_128 (ly_a420 hL) rfl (ly_r420_55 hL) ?_
    refine ex_step (pc' := 74) (st' := [.int 7, .ref 457, .int (I 457 ((7 : Int32) + x1).toNatClampNeg), .int (zap (I 457 x1.toNatClampNeg) (I 457 x5.toNatClampNeg))]) dX12_nearest_72 rfl ?_
    refine ex_step (pc' := 76) dX12_nearest_74 rfl ?_
    refine ex_step (pc' := 77) dX12_nearest_76 rfl ?_
    obtain ⟨hv, h⟩ := h
    refine ex_iald dX12_nearest_77 (Or.inl (ly_a457 hL)) hv ?_
    refine ex_callS (as := [.int (I 457 ((7 : Int32) + x1).toNatClampNeg), .int (I 457 ((7 : Int32) + x5).toNatClampNeg)]) (st := [.int (zap (I 457 x1.toNatClampNeg) (I 457 x5.toNatClampNeg))]) dX12_nearest_78 zmX12_apart zl_RX12_400 zsX12_apart rfl (Nat.le_of_ble_eq_true rfl) (Nat.le_of_ble_eq_true rfl) M_apart ?_
    refine ex_step (pc' := 82) dX12_nearest_81 rfl ?_
    refine ex_topi (fun y1 ey1 => ?_)
    have h := h y1 ey1
    refine ex_step (pc' := 84) (ls' := [some (.ref 420), some (.int x1), some (.int x2), some (.int x3), some (.int x4), some (.int x5), some (.int y1)]) dX12_nearest_82 rfl ?_
    refine ex_step (pc' := 86) dX12_nearest_84 rfl ?_
    refine ex_step (pc' := 87) dX12_nearest_86 rfl ?_
    refine ex_icmp (pc' := 111) dX12_nearest_87 (by decide) (fun c => ?_) (fun c => ?_)
    · have h := h.1 c
      refine ex_step (pc' := 114) (ls' := [some (.ref 420), some (.int x1), some (.int x2), some (.int x3), some (.int x4), some (.int (x5 + 1)), some (.int y1)]) dX12_nearest_111 rfl ?_
      refine ex_step (pc' := 29) dX12_nearest_114 rfl ?_
      exact ex_less (ls' := [some (.ref 420), some (.int x1), some (.int x2), some (.int x3), some (.int x4), some (.int (x5 + 1)), none]) ⟨rfl, ⟨rfl, ⟨rfl, ⟨rfl, ⟨rfl, ⟨rfl, trivial⟩⟩⟩⟩⟩⟩ h
    · have h := h.2 c
      refine ex_step (pc' := 91) dX12_nearest_90 rfl ?_
      refine ex_if (pc' := 104) dX12_nearest_91 (by decide) (fun c => ?_) (fun c => ?_)
      · have h := h.1 c
        refine ex_step (pc' := 106) dX12_nearest_104 rfl ?_
        refine ex_step (pc' := 107) (ls' := [some (.ref 420), some (.int x1), some (.int x2), some (.int x5), some (.int x4), some (.int x5), some (.int y1)]) dX12_nearest_106 rfl ?_
        refine ex_step (pc' := 109) dX12_nearest_107 rfl ?_
        refine ex_step (pc' := 111) (ls' := [some (.ref 420), some (.int x1), some (.int x2), some (.int x5), some (.int y1), some (.int x5), some (.int y1)]) dX12_nearest_109 rfl ?_
        refine ex_step (pc' := 114) (ls' := [some (.ref 420), some (.int x1), some (.int x2), some (.int x5), some (.int y1), some (.int (x5 + 1)), some (.int y1)]) dX12_nearest_111 rfl ?_
        refine ex_step (pc' := 29) dX12_nearest_114 rfl ?_
        exact ex_less (ls' := [some (.ref 420), some (.int x1), some (.int x2), some (.int x5), some (.int y1), some (.int (x5 + 1)), none]) ⟨rfl, ⟨rfl, ⟨rfl, ⟨rfl, ⟨rfl, ⟨rfl, trivial⟩⟩⟩⟩⟩⟩ h
      · have h := h.2 c
        refine ex_step (pc' := 96) dX12_nearest_94 rfl ?_
        refine ex_step (pc' := 98) dX12_nearest_96 rfl ?_
        refine ex_icmp (pc' := 104) dX12_nearest_98 (by decide) (fun c => ?_) (fun c => ?_)
        · have h := h.1 c
          refine ex_step (pc' := 106) dX12_nearest_104 rfl ?_
          refine ex_step (pc' := 107) (ls' := [some (.ref 420), some (.int x1), some (.int x2), some (.int x5), some (.int x4), some (.int x5), some (.int y1)]) dX12_nearest_106 rfl ?_
          refine ex_step (pc' := 109) dX12_nearest_107 rfl ?_
          refine ex_step (pc' := 111) (ls' := [some (.ref 420), some (.int x1), some (.int x2), some (.int x5), some (.int y1), some (.int x5), some (.int y1)]) dX12_nearest_109 rfl ?_
          refine ex_step (pc' := 114) (ls' := [some (.ref 420), some (.int x1), some (.int x2), some (.int x5), some (.int y1), some (.int (x5 + 1)), some (.int y1)]) dX12_nearest_111 rfl ?_
          refine ex_step (pc' := 29) dX12_nearest_114 rfl ?_
          exact ex_less (ls' := [some (.ref 420), some (.int x1), some (.int x2), some (.int x5), some (.int y1), some (.int (x5 + 1)), none]) ⟨rfl, ⟨rfl, ⟨rfl, ⟨rfl, ⟨rfl, ⟨rfl, trivial⟩⟩⟩⟩⟩⟩ h
        · have h := h.2 c
          refine ex_step (pc' := 111) dX12_nearest_101 rfl ?_
          refine ex_step (pc' := 114) (ls' := [some (.ref 420), some (.int x1), some (.int x2), some (.int x3), some (.int x4), some (.int (x5 + 1)), some (.int y1)]) dX12_nearest_111 rfl ?_
          refine ex_step (pc' := 29) dX12_nearest_114 rfl ?_
          exact ex_less (ls' := [some (.ref 420), some (.int x1), some (.int x2), some (.int x3), some (.int x4), some (.int (x5 + 1)), none]) ⟨rfl, ⟨rfl, ⟨rfl, ⟨rfl, ⟨rfl, ⟨rfl, trivial⟩⟩⟩⟩⟩⟩ h
set_option maxHeartbeats 4000000 in
theorem BX12_isStreet_0 {d : Nat} {Z : zZ} {I : zI} {J : zJ} {o : zO} {t u : Nat} (x1 : Int32) (x2 : Int32) (x3 : Int32) (hL : zLY Z t u)  (h : (((zbi (1 ≤ x3 ∧ x3 ≤ 4)) = 0 → o = (some (.int 0), Z, I, J)) ∧ (¬ (zbi (1 ≤ x3 ∧ x3 ≤ 4)) = 0 → (∃ (v1 : Int32), zE (d + 1) kX12_isCorner 0 [some (.ref 420), some (.int x1), some (.int x2)] [] Z I J (some (.int v1), Z, I, J) ∧ ((v1 = 0 → o = (some (.int 0), Z, I, J)) ∧ (¬ v1 = 0 → (∃ (v2 : Int32), zE (d + 1) kX12_isCorner 0 [some (.ref 420), some (.int (x1 + (zdx x3))), some (.int (x2 + (zdy x3)))] [] Z I J (some (.int v2), Z, I, J) ∧ ((v2 = 0 → o = (some (.int 0), Z, I, J)) ∧ (¬ v2 = 0 → o = (some (.int 1), Z, I, J)))))))))) : zE (d + 2) kX12_isStreet 0 [some (.ref 420), some (.int x1), some (.int x2), some (.int x3)] [] Z I J o := by
  refine ex_step (pc' := 1) dX12_isStreet_0 rfl ?_
  refine ex_step (pc' := 2) (st' := [.int 1, .int x3]) dX12_isStreet_1 rfl ?_
  refine ex_step (pc' := 3) (st' := [.int 4, .int 1, .int x3]) dX12_isStreet_2 rfl ?_
  refine ex_callS (as := [.int x3, .int 1, .int 4]) (st := []) dX12_isStreet_3 zmX12_in zl_RX12_345 zsX12_in rfl (Nat.le_of_ble_eq_true rfl) (Nat.le_of_ble_eq_true rfl) M_in ?_
  refine ex_if (pc' := 41) dX12_isStreet_6 (by decide) (fun c => ?_) (fun c => ?_)
  · have h := h.1 c
    refine ex_step (pc' := 42) (st' := [.int 0]) dX12_isStreet_41 rfl ?_
    rw [h]; exact ex_ret (v := some (.int 0)) ⟨dX12_isStreet_42, _, rfl, rfl⟩
  · have h := h.2 c
    refine ex_step (pc' := 10) dX12_isStreet_9 rfl ?_
    refine ex_step (pc' := 11) dX12_isStreet_10 rfl ?_
    refine ex_step (pc' := 12) dX12_isStreet_11 rfl ?_
    obtain ⟨v1, hc, h⟩ := h
    refine ex_callV (as := [.int x1, .int x2]) (st := []) (ci := 12) dX12_isStreet_12 zmX12_isCorner zl_RX12_374 ziX12_isCorner zvX12_isCorner (by decide) (ly_a420 hL) rfl (Nat.le_of_ble_eq_true rfl) (Nat.le_of_ble_eq_true rfl) hc ?_
    refine ex_if (pc' := 41) dX12_isStreet_15 (by decide) (fun c => ?_) (fun c => ?_)
    · have h := h.1 c
      refine ex_step (pc' := 42) (st' := [.int 0]) dX12_isStreet_41 rfl ?_
      rw [h]; exact ex_ret (v := some (.int 0)) ⟨dX12_isStreet_42, _, rfl, rfl⟩
    · have h := h.2 c
      refine ex_step (pc' := 19) dX12_isStreet_18 rfl ?_
      refine ex_step (pc' := 20) dX12_isStreet_19 rfl ?_
      refine ex_step (pc' := 21) dX12_isStreet_20 rfl ?_
      refine ex_callS (as := [.int x3]) (st := [.int x1, .ref 420]) dX12_isStreet_21 zmX12_dx zl_RX12_368 zsX12_dx rfl (Nat.le_of_ble_eq_true rfl) (Nat.le_of_ble_eq_true rfl) M_dx ?_
      refine ex_step (pc' := 25) dX12_isStreet_24 rfl ?_
      refine ex_step (pc' := 26) dX12_isStreet_25 rfl ?_
      refine ex_step (pc' := 27) dX12_isStreet_26 rfl ?_
      refine ex_callS (as := [.int x3]) (st := [.int x2, .int (x1 + (zdx x3)), .ref 420]) dX12_isStreet_27 zmX12_dy zl_RX12_371 zsX12_dy rfl (Nat.le_of_ble_eq_true rfl) (Nat.le_of_ble_eq_true rfl) M_dy ?_
      refine ex_step (pc' := 31) dX12_isStreet_30 rfl ?_
      obtain ⟨v2, hc, h⟩ := h
      refine ex_callV (as := [.int (x1 + (zdx x3)), .int (x2 + (zdy x3))]) (st := []) (ci := 12) dX12_isStreet_31 zmX12_isCorner zl_RX12_374 ziX12_isCorner zvX12_isCorner (by decide) (ly_a420 hL) rfl (Nat.le_of_ble_eq_true rfl) (Nat.le_of_ble_eq_true rfl) hc ?_
      refine ex_if (pc' := 41) dX12_isStreet_34 (by decide) (fun c => ?_) (fun c => ?_)
      · have h := h.1 c
        refine ex_step (pc' := 42) (st' := [.int 0]) dX12_isStreet_41 rfl ?_
        rw [h]; exact ex_ret (v := some (.int 0)) ⟨dX12_isStreet_42, _, rfl, rfl⟩
      · have h := h.2 c
        refine ex_step (pc' := 38) (st' := [.int 1]) dX12_isStreet_37 rfl ?_
        refine ex_step (pc' := 42) dX12_isStreet_38 rfl ?_
        rw [h]; exact ex_ret (v := some (.int 1)) ⟨dX12_isStreet_42, _, rfl, rfl⟩
set_option maxHeartbeats 4000000 in
theorem BX12_whoseAt_0 {d : Nat} {Z : zZ} {I : zI} {J : zJ} {o : zO} {t u : Nat} (x1 : Int32) (x2 : Int32) (hL : zLY Z t u)  (h : zE (d + 1) kX12_whoseAt 2 [some (.ref 420), some (.int x1), some (.int x2), some (.int 0), none, none] [] Z I J o) : zE (d + 1) kX12_whoseAt 0 [some (.ref 420), some (.int x1), some (.int x2), none, none, none] [] Z I J o := by
  refine ex_step (pc' := 1) (st' := [.int 0]) dX12_whoseAt_0 rfl ?_
  refine ex_step (pc' := 2) (ls' := [some (.ref 420), some (.int x1), some (.int x2), some (.int 0), none, none]) dX12_whoseAt_1 rfl ?_
  exact h
set_option maxHeartbeats 4000000 in
theorem BX12_whoseAt_2 {d : Nat} {Z : zZ} {I : zI} {J : zJ} {o : zO} {t u : Nat} (x1 : Int32) (x2 : Int32) (x3 : Int32) (hL : zLY Z t u)  (h : (vp_in (I 420 18) 2 ∧ (((I 431 (I 420 18).toNatClampNeg) ≤ x3 → o = (some (.int (-1)), Z, I, J)) ∧ (¬ (I 431 (I 420 18).toNatClampNeg) ≤ x3 → zE (d + 1) kX12_whoseAt 18 [some (.ref 420), some (.int x1), some (.int x2), some (.int x3), some (.int 0), none] [] Z I J o)))) : zE (d + 1) kX12_whoseAt 2 [some (.ref 420), some (.int x1), some (.int x2), some (.int x3), none, none] [] Z I J o := by
  refine ex_step (pc' := 3) dX12_whoseAt_2 rfl ?_
  refine ex_step (pc' := 4) dX12_whoseAt_3 rfl ?_
  refine ex_getr dX12_whoseAt_4 wf_RX12_49 (ly_a420 hL) rfl (ly_r420_24 hL) ?_
  refine ex_step (pc' := 8) dX12_whoseAt_7 rfl ?_
  refine ex_geti dX12_whoseAt_8 wf_RX12_258 (ly_a420 hL) rfl ?_
  obtain ⟨hv, h⟩ := h
  refine ex_iald dX12_whoseAt_11 (Or.inl (ly_a431 hL)) hv ?_
  refine ex_icmp (pc' := 91) dX12_whoseAt_12 (by decide) (fun c => ?_) (fun c => ?_)
  · have h := h.1 c
    refine ex_step (pc' := 92) (st' := [.int (-1)]) dX12_whoseAt_91 rfl ?_
    rw [h]; exact ex_ret (v := some (.int (-1))) ⟨dX12_whoseAt_92, _, rfl, rfl⟩
  · have h := h.2 c
    refine ex_step (pc' := 16) (st' := [.int 0]) dX12_whoseAt_15 rfl ?_
    refine ex_step (pc' := 18) (ls' := [some (.ref 420), some (.int x1), some (.int x2), some (.int x3), some (.int 0), none]) dX12_whoseAt_16 rfl ?_
    exact h
set_option maxHeartbeats 4000000 in
theorem BX12_whoseAt_18 {d : Nat} {Z : zZ} {I : zI} {J : zJ} {o : zO} {t u : Nat} (x1 : Int32) (x2 : Int32) (x3 : Int32) (x4 : Int32) (hL : zLY Z t u)  (h : (vp_in ((14 : Int32) + x3) 1290 ∧ (((I 458 ((14 : Int32) + x3).toNatClampNeg) ≤ x4 → zE (d + 1) kX12_whoseAt 2 [some (.ref 420), some (.int x1), some (.int x2), some (.int (x3 + 1)), none, none] [] Z I J o) ∧ (¬ (I 458 ((14 : Int32) + x3).toNatClampNeg) ≤ x4 → (∀ y1 : Int32, y1 = (((60 : Int32) * x3) + x4) → (vp_in ((870 : Int32) + y1) 1290 ∧ ((¬ (I 458 ((870 : Int32) + y1).toNatClampNeg) = x1 → zE (d + 1) kX12_whoseAt 18 [some (.ref 420), some (.int x1), some (.int x2), some (.int x3), some (.int (x4 + 1)), none] [] Z I J o) ∧ ((I 458 ((870 : Int32) + y1).toNatClampNeg) = x1 → (vp_in ((450 : Int32) + y1) 1290 ∧ (∃ (v2 : Int32), zE d kX12_others 0 [some (.ref 420), some (.int x1), some (.int (I 458 ((450 : Int32) + y1).toNatClampNeg)), some (.int 0), none, none, none, none] [] Z I J (some (.int v2), Z, I, J) ∧ ((¬ v2 = x2 → zE (d + 1) kX12_whoseAt 18 [some (.ref 420), some (.int x1), some (.int x2), some (.int x3), some (.int (x4 + 1)), none] [] Z I J o) ∧ (v2 = x2 → o = (some (.int x3), Z, I, J))))))))))))) : zE (d + 1) kX12_whoseAt 18 [some (.ref 420), some (.int x1), some (.int x2), some (.int x3), some (.int x4), none] [] Z I J o := by
  refine ex_step (pc' := 20) dX12_whoseAt_18 rfl ?_
  refine ex_step (pc' := 21) dX12_whoseAt_20 rfl ?_
  refine ex_getr dX12_whoseAt_21 wf_RX12_131 (ly_a420 hL) rfl (ly_r420_56 hL) ?_
  refine ex_step (pc' := 26) (st' := [.int 14, .ref 458, .int x4]) dX12_whoseAt_24 rfl ?_
  refine ex_step (pc' := 27) dX12_whoseAt_26 rfl ?_
  refine ex_step (pc' := 28) dX12_whoseAt_27 rfl ?_
  obtain ⟨hv, h⟩ := h
  refine ex_iald dX12_whoseAt_28 (Or.inl (ly_a458 hL)) hv ?_
  refine ex_icmp (pc' := 85) dX12_whoseAt_29 (by decide) (fun c => ?_) (fun c => ?_)
  · have h := h.1 c
    refine ex_step (pc' := 88) (ls' := [some (.ref 420), some (.int x1), some (.int x2), some (.int (x3 + 1)), some (.int x4), none]) dX12_whoseAt_85 rfl ?_
    refine ex_step (pc' := 2) dX12_whoseAt_88 rfl ?_
    exact ex_less (ls' := [some (.ref 420), some (.int x1), some (.int x2), some (.int (x3 + 1)), none, none]) ⟨rfl, ⟨rfl, ⟨rfl, ⟨rfl, trivial⟩⟩⟩⟩ h
  · have h := h.2 c
    refine ex_step (pc' := 34) (st' := [.int 60]) dX12_whoseAt_32 rfl ?_
    refine ex_step (pc' := 35) dX12_whoseAt_34 rfl ?_
    refine ex_step (pc' := 36) dX12_whoseAt_35 rfl ?_
    refine ex_step (pc' := 38) dX12_whoseAt_36 rfl ?_
    refine ex_step (pc' := 39) dX12_whoseAt_38 rfl ?_
    refine ex_topi (fun y1 ey1 => ?_)
    have h := h y1 ey1
    refine ex_step (pc' := 41) (ls' := [some (.ref 420), some (.int x1), some (.int x2), some (.int x3), some (.int x4), some (.int y1)]) dX12_whoseAt_39 rfl ?_
    refine ex_step (pc' := 42) dX12_whoseAt_41 rfl ?_
    refine ex_getr dX12_whoseAt_42 wf_RX12_131 (ly_a420 hL) rfl (ly_r420_56 hL) ?_
    refine ex_step (pc' := 48) (st' := [.int 870, .ref 458]) dX12_whoseAt_45 rfl ?_
    refine ex_step (pc' := 50) dX12_whoseAt_48 rfl ?_
    refine ex_step (pc' := 51) dX12_whoseAt_50 rfl ?_
    obtain ⟨hv, h⟩ := h
    refine ex_iald dX12_whoseAt_51 (Or.inl (ly_a458 hL)) hv ?_
    refine ex_step (pc' := 53) dX12_whoseAt_52 rfl ?_
    refine ex_icmp (pc' := 79) dX12_whoseAt_53 (by decide) (fun c => ?_) (fun c => ?_)
    · have h := h.1 c
      refine ex_step (pc' := 82) (ls' := [some (.ref 420), some (.int x1), some (.int x2), some (.int x3), some (.int (x4 + 1)), some (.int y1)]) dX12_whoseAt_79 rfl ?_
      refine ex_step (pc' := 18) dX12_whoseAt_82 rfl ?_
      exact ex_less (ls' := [some (.ref 420), some (.int x1), some (.int x2), some (.int x3), some (.int (x4 + 1)), none]) ⟨rfl, ⟨rfl, ⟨rfl, ⟨rfl, ⟨rfl, trivial⟩⟩⟩⟩⟩ h
    · have h := h.2 (Classical.not_not.mp c)
      refine ex_step (pc' := 57) dX12_whoseAt_56 rfl ?_
      refine ex_step (pc' := 58) dX12_whoseAt_57 rfl ?_
      refine ex_step (pc' := 59) dX12_whoseAt_58 rfl ?_
      refine ex_getr dX12_whoseAt_59 wf_RX12_131 (ly_a420 hL) rfl (ly_r420_56 hL) ?_
      refine ex_step (pc' := 65) (st' := [.int 450, .ref 458, .int x1, .ref 420]) dX12_whoseAt_62 rfl ?_
      refine ex_step (pc' := 67) dX12_whoseAt_65 rfl ?_
      refine ex_step (pc' := 68) dX12_whoseAt_67 rfl ?_
      obtain ⟨hv, h⟩ := h
      refine ex_iald dX12_whoseAt_68 (Or.inl (ly_a458 hL)) hv ?_
      refine ex_step (pc' := 70) (st' := [.int 0, .int (I 458 ((450 : Int32) + y1).toNatClampNeg), .int x1, .ref 420]) dX12_whoseAt_69 rfl ?_
      obtain ⟨v2, hc, h⟩ := h
      refine ex_callV (as := [.int x1, .int (I 458 ((450 : Int32) + y1).toNatClampNeg), .int 0]) (st := []) (ci := 12) dX12_whoseAt_70 zmX12_others zl_RX12_381 ziX12_others zvX12_others (by decide) (ly_a420 hL) rfl (Nat.le_of_ble_eq_true rfl) (Nat.le_of_ble_eq_true rfl) hc ?_
      refine ex_step (pc' := 74) dX12_whoseAt_73 rfl ?_
      refine ex_icmp (pc' := 79) dX12_whoseAt_74 (by decide) (fun c => ?_) (fun c => ?_)
      · have h := h.1 c
        refine ex_step (pc' := 82) (ls' := [some (.ref 420), some (.int x1), some (.int x2), some (.int x3), some (.int (x4 + 1)), some (.int y1)]) dX12_whoseAt_79 rfl ?_
        refine ex_step (pc' := 18) dX12_whoseAt_82 rfl ?_
        exact ex_less (ls' := [some (.ref 420), some (.int x1), some (.int x2), some (.int x3), some (.int (x4 + 1)), none]) ⟨rfl, ⟨rfl, ⟨rfl, ⟨rfl, ⟨rfl, trivial⟩⟩⟩⟩⟩ h
      · have h := h.2 (Classical.not_not.mp c)
        refine ex_step (pc' := 78) dX12_whoseAt_77 rfl ?_
        rw [h]; exact ex_ret (v := some (.int x3)) ⟨dX12_whoseAt_78, _, rfl, rfl⟩
set_option maxHeartbeats 4000000 in
theorem BX12_manyOn_0 {d : Nat} {Z : zZ} {I : zI} {J : zJ} {o : zO} {t u : Nat} (x1 : Int32) (hL : zLY Z t u)  (h : (∃ (v1 : Int32), zE d kX12_others 0 [some (.ref 420), some (.int x1), some (.int (-1)), some (.int 1), none, none, none, none] [] Z I J (some (.int v1), Z, I, J) ∧ o = (some (.int v1), Z, I, J))) : zE (d + 1) kX12_manyOn 0 [some (.ref 420), some (.int x1)] [] Z I J o := by
  refine ex_step (pc' := 1) dX12_manyOn_0 rfl ?_
  refine ex_step (pc' := 2) dX12_manyOn_1 rfl ?_
  refine ex_step (pc' := 3) (st' := [.int (-1), .int x1, .ref 420]) dX12_manyOn_2 rfl ?_
  refine ex_step (pc' := 4) (st' := [.int 1, .int (-1), .int x1, .ref 420]) dX12_manyOn_3 rfl ?_
  obtain ⟨v1, hc, h⟩ := h
  refine ex_callV (as := [.int x1, .int (-1), .int 1]) (st := []) (ci := 12) dX12_manyOn_4 zmX12_others zl_RX12_381 ziX12_others zvX12_others (by decide) (ly_a420 hL) rfl (Nat.le_of_ble_eq_true rfl) (Nat.le_of_ble_eq_true rfl) hc ?_
  rw [h]; exact ex_ret (v := some (.int v1)) ⟨dX12_manyOn_7, _, rfl, rfl⟩
set_option maxHeartbeats 4000000 in
theorem BX12_topOf_0 {d : Nat} {Z : zZ} {I : zI} {J : zJ} {o : zO} {t u : Nat} (x1 : Int32) (hL : zLY Z t u)  (h : (∃ (v1 : Int32), zE (d + 1) kX12_manyOn 0 [some (.ref 420), some (.int x1)] [] Z I J (some (.int v1), Z, I, J) ∧ (∃ (v2 : Int32), zE (d + 1) kX12_whoseAt 0 [some (.ref 420), some (.int x1), some (.int (v1 - 1)), none, none, none] [] Z I J (some (.int v2), Z, I, J) ∧ o = (some (.int v2), Z, I, J)))) : zE (d + 2) kX12_topOf 0 [some (.ref 420), some (.int x1)] [] Z I J o := by
  refine ex_step (pc' := 1) dX12_topOf_0 rfl ?_
  refine ex_step (pc' := 2) dX12_topOf_1 rfl ?_
  refine ex_step (pc' := 3) dX12_topOf_2 rfl ?_
  refine ex_step (pc' := 4) dX12_topOf_3 rfl ?_
  obtain ⟨v1, hc, h⟩ := h
  refine ex_callV (as := [.int x1]) (st := [.int x1, .ref 420]) (ci := 12) dX12_topOf_4 zmX12_manyOn zl_RX12_443 ziX12_manyOn zvX12_manyOn (by decide) (ly_a420 hL) rfl (Nat.le_of_ble_eq_true rfl) (Nat.le_of_ble_eq_true rfl) hc ?_
  refine ex_step (pc' := 8) (st' := [.int 1, .int v1, .int x1, .ref 420]) dX12_topOf_7 rfl ?_
  refine ex_step (pc' := 9) dX12_topOf_8 rfl ?_
  obtain ⟨v2, hc, h⟩ := h
  refine ex_callV (as := [.int x1, .int (v1 - 1)]) (st := []) (ci := 12) dX12_topOf_9 zmX12_whoseAt zl_RX12_446 ziX12_whoseAt zvX12_whoseAt (by decide) (ly_a420 hL) rfl (Nat.le_of_ble_eq_true rfl) (Nat.le_of_ble_eq_true rfl) hc ?_
  rw [h]; exact ex_ret (v := some (.int v2)) ⟨dX12_topOf_12, _, rfl, rfl⟩
set_option maxHeartbeats 4000000 in
theorem BX12_street_0 {d : Nat} {Z : zZ} {I : zI} {J : zJ} {o : zO} {t u : Nat} (x1 : Int32) (x2 : Int32) (x3 : Int32) (x4 : Int32) (hL : zLY Z t u)  (h : (∃ (v1 : Int32), zE (d + 2) kX12_isStreet 0 [some (.ref 420), some (.int x1), some (.int x2), some (.int x3)] [] Z I J (some (.int v1), Z, I, J) ∧ ((v1 = 0 → o = (some (.int (-1)), Z, I, J)) ∧ (¬ v1 = 0 → (((-1) ≤ x4 → (∃ (I2 : zI), zE (d + 2) kX12_copies 0 [some (.ref 420), none] [] Z I J (none, Z, I2, J) ∧ ((¬ x4 = (-1) → (∃ (v3 : Int32), zE (d + 2) kX12_whoseAt 0 [some (.ref 420), some (.int (zsm x1 x2 x3)), some (.int x4), none, none, none] [] Z I2 J (some (.int v3), Z, I2, J) ∧ o = (some (.int v3), Z, I2, J))) ∧ (x4 = (-1) → (∃ (v4 : Int32), zE (d + 2) kX12_manyOn 0 [some (.ref 420), some (.int (zsm x1 x2 x3))] [] Z I2 J (some (.int v4), Z, I2, J) ∧ o = (some (.int v4), Z, I2, J)))))) ∧ (¬ (-1) ≤ x4 → o = (some (.int (-1)), Z, I, J))))))) : zE (d + 3) kX12_street 0 [some (.ref 420), some (.int x1), some (.int x2), some (.int x3), some (.int x4), none] [] Z I J o := by
  refine ex_step (pc' := 1) dX12_street_0 rfl ?_
  refine ex_step (pc' := 2) dX12_street_1 rfl ?_
  refine ex_step (pc' := 3) dX12_street_2 rfl ?_
  refine ex_step (pc' := 4) dX12_street_3 rfl ?_
  obtain ⟨v1, hc, h⟩ := h
  refine ex_callV (as := [.int x1, .int x2, .int x3]) (st := []) (ci := 12) dX12_street_4 zmX12_isStreet zl_RX12_449 ziX12_isStreet zvX12_isStreet (by decide) (ly_a420 hL) rfl (Nat.le_of_ble_eq_true rfl) (Nat.le_of_ble_eq_true rfl) hc ?_
  refine ex_if (pc' := 16) dX12_street_7 (by decide) (fun c => ?_) (fun c => ?_)
  · have h := h.1 c
    refine ex_step (pc' := 17) (st' := [.int (-1)]) dX12_street_16 rfl ?_
    rw [h]; exact ex_ret (v := some (.int (-1))) ⟨dX12_street_17, _, rfl, rfl⟩
  · have h := h.2 c
    refine ex_step (pc' := 12) dX12_street_10 rfl ?_
    refine ex_step (pc' := 13) (st' := [.int (-1), .int x4]) dX12_street_12 rfl ?_
    refine ex_icmp (pc' := 18) dX12_street_13 (by decide) (fun c => ?_) (fun c => ?_)
    · have h := h.1 c
      refine ex_step (pc' := 19) dX12_street_18 rfl ?_
      obtain ⟨I2, hc, h⟩ := h
      refine ex_callV (as := []) (st := []) (ci := 12) dX12_street_19 zmX12_copies zl_RX12_397 ziX12_copies zvX12_copies (by decide) (ly_a420 hL) rfl (Nat.le_of_ble_eq_true rfl) (Nat.le_of_ble_eq_true rfl) hc ?_
      refine ex_step (pc' := 23) dX12_street_22 rfl ?_
      refine ex_step (pc' := 24) dX12_street_23 rfl ?_
      refine ex_step (pc' := 25) dX12_street_24 rfl ?_
      refine ex_callS (as := [.int x1, .int x2, .int x3]) (st := []) dX12_street_25 zmX12_streetOf zl_RX12_378 zsX12_streetOf rfl (Nat.le_of_ble_eq_true rfl) (Nat.le_of_ble_eq_true rfl) M_streetOf ?_
      refine ex_step (pc' := 30) (ls' := [some (.ref 420), some (.int x1), some (.int x2), some (.int x3), some (.int x4), some (.int (zsm x1 x2 x3))]) dX12_street_28 rfl ?_
      refine ex_step (pc' := 32) dX12_street_30 rfl ?_
      refine ex_step (pc' := 33) (st' := [.int (-1), .int x4]) dX12_street_32 rfl ?_
      refine ex_icmp (pc' := 45) dX12_street_33 (by decide) (fun c => ?_) (fun c => ?_)
      · have h := h.1 c
        refine ex_step (pc' := 46) dX12_street_45 rfl ?_
        refine ex_step (pc' := 48) dX12_street_46 rfl ?_
        refine ex_step (pc' := 50) dX12_street_48 rfl ?_
        obtain ⟨v3, hc, h⟩ := h
        refine ex_callV (as := [.int (zsm x1 x2 x3), .int x4]) (st := []) (ci := 12) dX12_street_50 zmX12_whoseAt zl_RX12_446 ziX12_whoseAt zvX12_whoseAt (by decide) (ly_a420 hL) rfl (Nat.le_of_ble_eq_true rfl) (Nat.le_of_ble_eq_true rfl) hc ?_
        rw [h]; exact ex_ret (v := some (.int v3)) ⟨dX12_street_53, _, rfl, rfl⟩
      · have h := h.2 (Classical.not_not.mp c)
        refine ex_step (pc' := 37) dX12_street_36 rfl ?_
        refine ex_step (pc' := 39) dX12_street_37 rfl ?_
        obtain ⟨v4, hc, h⟩ := h
        refine ex_callV (as := [.int (zsm x1 x2 x3)]) (st := []) (ci := 12) dX12_street_39 zmX12_manyOn zl_RX12_443 ziX12_manyOn zvX12_manyOn (by decide) (ly_a420 hL) rfl (Nat.le_of_ble_eq_true rfl) (Nat.le_of_ble_eq_true rfl) hc ?_
        refine ex_step (pc' := 53) dX12_street_42 rfl ?_
        rw [h]; exact ex_ret (v := some (.int v4)) ⟨dX12_street_53, _, rfl, rfl⟩
    · have h := h.2 c
      refine ex_step (pc' := 17) (st' := [.int (-1)]) dX12_street_16 rfl ?_
      rw [h]; exact ex_ret (v := some (.int (-1))) ⟨dX12_street_17, _, rfl, rfl⟩
set_option maxHeartbeats 4000000 in
theorem BX12_shows_0 {d : Nat} {Z : zZ} {I : zI} {J : zJ} {o : zO} {t u : Nat} (x1 : Int32) (x2 : Int32) (x3 : Int32) (hL : zLY Z t u)  (h : (∃ (v1 : Int32), zE (d + 2) kX12_isStreet 0 [some (.ref 420), some (.int x1), some (.int x2), some (.int x3)] [] Z I J (some (.int v1), Z, I, J) ∧ ((¬ v1 = 0 → (∃ (I2 : zI), zE (d + 2) kX12_copies 0 [some (.ref 420), none] [] Z I J (none, Z, I2, J) ∧ (∃ (v3 : Int32), zE (d + 2) kX12_topOf 0 [some (.ref 420), some (.int (zsm x1 x2 x3))] [] Z I2 J (some (.int v3), Z, I2, J) ∧ ((0 ≤ v3 → (vp_in (((7 : Int32) * (I2 420 18)) + v3) 14 ∧ o = (some (.int (I2 434 (((7 : Int32) * (I2 420 18)) + v3).toNatClampNeg)), Z, I2, J))) ∧ (¬ 0 ≤ v3 → o = (some (.int (-2)), Z, I2, J)))))) ∧ (v1 = 0 → o = (some (.int (-1)), Z, I, J))))) : zE (d + 3) kX12_shows 0 [some (.ref 420), some (.int x1), some (.int x2), some (.int x3), none] [] Z I J o := by
  refine ex_step (pc' := 1) dX12_shows_0 rfl ?_
  refine ex_step (pc' := 2) dX12_shows_1 rfl ?_
  refine ex_step (pc' := 3) dX12_shows_2 rfl ?_
  refine ex_step (pc' := 4) dX12_shows_3 rfl ?_
  obtain ⟨v1, hc, h⟩ := h
  refine ex_callV (as := [.int x1, .int x2, .int x3]) (st := []) (ci := 12) dX12_shows_4 zmX12_isStreet zl_RX12_449 ziX12_isStreet zvX12_isStreet (by decide) (ly_a420 hL) rfl (Nat.le_of_ble_eq_true rfl) (Nat.le_of_ble_eq_true rfl) hc ?_
  refine ex_if (pc' := 12) dX12_shows_7 (by decide) (fun c => ?_) (fun c => ?_)
  · have h := h.1 c
    refine ex_step (pc' := 13) dX12_shows_12 rfl ?_
    obtain ⟨I2, hc, h⟩ := h
    refine ex_callV (as := []) (st := []) (ci := 12) dX12_shows_13 zmX12_copies zl_RX12_397 ziX12_copies zvX12_copies (by decide) (ly_a420 hL) rfl (Nat.le_of_ble_eq_true rfl) (Nat.le_of_ble_eq_true rfl) hc ?_
    refine ex_step (pc' := 17) dX12_shows_16 rfl ?_
    refine ex_step (pc' := 18) dX12_shows_17 rfl ?_
    refine ex_step (pc' := 19) dX12_shows_18 rfl ?_
    refine ex_step (pc' := 20) dX12_shows_19 rfl ?_
    refine ex_callS (as := [.int x1, .int x2, .int x3]) (st := [.ref 420]) dX12_shows_20 zmX12_streetOf zl_RX12_378 zsX12_streetOf rfl (Nat.le_of_ble_eq_true rfl) (Nat.le_of_ble_eq_true rfl) M_streetOf ?_
    obtain ⟨v3, hc, h⟩ := h
    refine ex_callV (as := [.int (zsm x1 x2 x3)]) (st := []) (ci := 12) dX12_shows_23 zmX12_topOf zl_RX12_452 ziX12_topOf zvX12_topOf (by decide) (ly_a420 hL) rfl (Nat.le_of_ble_eq_true rfl) (Nat.le_of_ble_eq_true rfl) hc ?_
    refine ex_step (pc' := 28) (ls' := [some (.ref 420), some (.int x1), some (.int x2), some (.int x3), some (.int v3)]) dX12_shows_26 rfl ?_
    refine ex_step (pc' := 30) dX12_shows_28 rfl ?_
    refine ex_if (pc' := 38) dX12_shows_30 (by decide) (fun c => ?_) (fun c => ?_)
    · have h := h.1 c
      refine ex_step (pc' := 39) dX12_shows_38 rfl ?_
      refine ex_getr dX12_shows_39 wf_RX12_58 (ly_a420 hL) rfl (ly_r420_27 hL) ?_
      refine ex_step (pc' := 44) (st' := [.int 7, .ref 434]) dX12_shows_42 rfl ?_
      refine ex_step (pc' := 45) dX12_shows_44 rfl ?_
      refine ex_geti dX12_shows_45 wf_RX12_258 (ly_a420 hL) rfl ?_
      refine ex_step (pc' := 49) dX12_shows_48 rfl ?_
      refine ex_step (pc' := 51) dX12_shows_49 rfl ?_
      refine ex_step (pc' := 52) dX12_shows_51 rfl ?_
      obtain ⟨hv, h⟩ := h
      refine ex_iald dX12_shows_52 (Or.inl (ly_a434 hL)) hv ?_
      rw [h]; exact ex_ret (v := some (.int (I2 434 (((7 : Int32) * (I2 420 18)) + v3).toNatClampNeg))) ⟨dX12_shows_53, _, rfl, rfl⟩
    · have h := h.2 c
      refine ex_step (pc' := 35) (st' := [.int (-2)]) dX12_shows_33 rfl ?_
      refine ex_step (pc' := 53) dX12_shows_35 rfl ?_
      rw [h]; exact ex_ret (v := some (.int (-2))) ⟨dX12_shows_53, _, rfl, rfl⟩
  · have h := h.2 (Classical.not_not.mp c)
    refine ex_step (pc' := 11) (st' := [.int (-1)]) dX12_shows_10 rfl ?_
    rw [h]; exact ex_ret (v := some (.int (-1))) ⟨dX12_shows_11, _, rfl, rfl⟩
set_option maxHeartbeats 4000000 in
theorem BX12_shown_0 {d : Nat} {Z : zZ} {I : zI} {J : zJ} {o : zO} {t u : Nat} (x1 : Int32) (hL : zLY Z t u)  (h : ((¬ (zbi (0 ≤ x1 ∧ x1 ≤ 9)) = 0 → (∃ (I1 : zI), zE (d + 2) kX12_copies 0 [some (.ref 420), none] [] Z I J (none, Z, I1, J) ∧ zE (d + 3) kX12_shown 20 [some (.ref 420), some (.int x1), some (.int 0), some (.int 0), none] [] Z I1 J o)) ∧ ((zbi (0 ≤ x1 ∧ x1 ≤ 9)) = 0 → o = (some (.int (-1)), Z, I, J)))) : zE (d + 3) kX12_shown 0 [some (.ref 420), some (.int x1), none, none, none] [] Z I J o := by
  refine ex_step (pc' := 1) dX12_shown_0 rfl ?_
  refine ex_step (pc' := 2) (st' := [.int 0, .int x1]) dX12_shown_1 rfl ?_
  refine ex_step (pc' := 4) (st' := [.int 9, .int 0, .int x1]) dX12_shown_2 rfl ?_
  refine ex_callS (as := [.int x1, .int 0, .int 9]) (st := []) dX12_shown_4 zmX12_in zl_RX12_345 zsX12_in rfl (Nat.le_of_ble_eq_true rfl) (Nat.le_of_ble_eq_true rfl) M_in ?_
  refine ex_if (pc' := 12) dX12_shown_7 (by decide) (fun c => ?_) (fun c => ?_)
  · have h := h.1 c
    refine ex_step (pc' := 13) dX12_shown_12 rfl ?_
    obtain ⟨I1, hc, h⟩ := h
    refine ex_callV (as := []) (st := []) (ci := 12) dX12_shown_13 zmX12_copies zl_RX12_397 ziX12_copies zvX12_copies (by decide) (ly_a420 hL) rfl (Nat.le_of_ble_eq_true rfl) (Nat.le_of_ble_eq_true rfl) hc ?_
    refine ex_step (pc' := 17) (st' := [.int 0]) dX12_shown_16 rfl ?_
    refine ex_step (pc' := 18) (ls' := [some (.ref 420), some (.int x1), some (.int 0), none, none]) dX12_shown_17 rfl ?_
    refine ex_step (pc' := 19) (st' := [.int 0]) dX12_shown_18 rfl ?_
    refine ex_step (pc' := 20) (ls' := [some (.ref 420), some (.int x1), some (.int 0), some (.int 0), none]) dX12_shown_19 rfl ?_
    exact h
  · have h := h.2 (Classical.not_not.mp c)
    refine ex_step (pc' := 11) (st' := [.int (-1)]) dX12_shown_10 rfl ?_
    rw [h]; exact ex_ret (v := some (.int (-1))) ⟨dX12_shown_11, _, rfl, rfl⟩
set_option maxHeartbeats 4000000 in
theorem BX12_shown_20 {d : Nat} {Z : zZ} {I : zI} {J : zJ} {o : zO} {t u : Nat} (x1 : Int32) (x2 : Int32) (x3 : Int32) (hL : zLY Z t u)  (h : ((288 ≤ x3 → o = (some (.int x2), Z, I, J)) ∧ (¬ 288 ≤ x3 → (∃ (v1 : Int32), zE (d + 2) kX12_topOf 0 [some (.ref 420), some (.int x3)] [] Z I J (some (.int v1), Z, I, J) ∧ ((v1 < 0 → zE (d + 3) kX12_shown 20 [some (.ref 420), some (.int x1), some (.int x2), some (.int (x3 + 1)), none] [] Z I J o) ∧ (¬ v1 < 0 → (vp_in (((7 : Int32) * (I 420 18)) + v1) 14 ∧ ((¬ (I 434 (((7 : Int32) * (I 420 18)) + v1).toNatClampNeg) = x1 → zE (d + 3) kX12_shown 20 [some (.ref 420), some (.int x1), some (.int x2), some (.int (x3 + 1)), none] [] Z I J o) ∧ ((I 434 (((7 : Int32) * (I 420 18)) + v1).toNatClampNeg) = x1 → zE (d + 3) kX12_shown 20 [some (.ref 420), some (.int x1), some (.int (x2 + 1)), some (.int (x3 + 1)), none] [] Z I J o))))))))) : zE (d + 3) kX12_shown 20 [some (.ref 420), some (.int x1), some (.int x2), some (.int x3), none] [] Z I J o := by
  refine ex_step (pc' := 21) dX12_shown_20 rfl ?_
  refine ex_step (pc' := 24) (st' := [.int 288, .int x3]) dX12_shown_21 rfl ?_
  refine ex_icmp (pc' := 67) dX12_shown_24 (by decide) (fun c => ?_) (fun c => ?_)
  · have h := h.1 c
    refine ex_step (pc' := 68) dX12_shown_67 rfl ?_
    rw [h]; exact ex_ret (v := some (.int x2)) ⟨dX12_shown_68, _, rfl, rfl⟩
  · have h := h.2 c
    refine ex_step (pc' := 28) dX12_shown_27 rfl ?_
    refine ex_step (pc' := 29) dX12_shown_28 rfl ?_
    obtain ⟨v1, hc, h⟩ := h
    refine ex_callV (as := [.int x3]) (st := []) (ci := 12) dX12_shown_29 zmX12_topOf zl_RX12_452 ziX12_topOf zvX12_topOf (by decide) (ly_a420 hL) rfl (Nat.le_of_ble_eq_true rfl) (Nat.le_of_ble_eq_true rfl) hc ?_
    refine ex_step (pc' := 34) (ls' := [some (.ref 420), some (.int x1), some (.int x2), some (.int x3), some (.int v1)]) dX12_shown_32 rfl ?_
    refine ex_step (pc' := 36) dX12_shown_34 rfl ?_
    refine ex_if (pc' := 61) dX12_shown_36 (by decide) (fun c => ?_) (fun c => ?_)
    · have h := h.1 c
      refine ex_step (pc' := 64) (ls' := [some (.ref 420), some (.int x1), some (.int x2), some (.int (x3 + 1)), some (.int v1)]) dX12_shown_61 rfl ?_
      refine ex_step (pc' := 20) dX12_shown_64 rfl ?_
      exact ex_less (ls' := [some (.ref 420), some (.int x1), some (.int x2), some (.int (x3 + 1)), none]) ⟨rfl, ⟨rfl, ⟨rfl, ⟨rfl, trivial⟩⟩⟩⟩ h
    · have h := h.2 c
      refine ex_step (pc' := 40) dX12_shown_39 rfl ?_
      refine ex_getr dX12_shown_40 wf_RX12_58 (ly_a420 hL) rfl (ly_r420_27 hL) ?_
      refine ex_step (pc' := 45) (st' := [.int 7, .ref 434]) dX12_shown_43 rfl ?_
      refine ex_step (pc' := 46) dX12_shown_45 rfl ?_
      refine ex_geti dX12_shown_46 wf_RX12_258 (ly_a420 hL) rfl ?_
      refine ex_step (pc' := 50) dX12_shown_49 rfl ?_
      refine ex_step (pc' := 52) dX12_shown_50 rfl ?_
      refine ex_step (pc' := 53) dX12_shown_52 rfl ?_
      obtain ⟨hv, h⟩ := h
      refine ex_iald dX12_shown_53 (Or.inl (ly_a434 hL)) hv ?_
      refine ex_step (pc' := 55) dX12_shown_54 rfl ?_
      refine ex_icmp (pc' := 61) dX12_shown_55 (by decide) (fun c => ?_) (fun c => ?_)
      · have h := h.1 c
        refine ex_step (pc' := 64) (ls' := [some (.ref 420), some (.int x1), some (.int x2), some (.int (x3 + 1)), some (.int v1)]) dX12_shown_61 rfl ?_
        refine ex_step (pc' := 20) dX12_shown_64 rfl ?_
        exact ex_less (ls' := [some (.ref 420), some (.int x1), some (.int x2), some (.int (x3 + 1)), none]) ⟨rfl, ⟨rfl, ⟨rfl, ⟨rfl, trivial⟩⟩⟩⟩ h
      · have h := h.2 (Classical.not_not.mp c)
        refine ex_step (pc' := 61) (ls' := [some (.ref 420), some (.int x1), some (.int (x2 + 1)), some (.int x3), some (.int v1)]) dX12_shown_58 rfl ?_
        refine ex_step (pc' := 64) (ls' := [some (.ref 420), some (.int x1), some (.int (x2 + 1)), some (.int (x3 + 1)), some (.int v1)]) dX12_shown_61 rfl ?_
        refine ex_step (pc' := 20) dX12_shown_64 rfl ?_
        exact ex_less (ls' := [some (.ref 420), some (.int x1), some (.int (x2 + 1)), some (.int (x3 + 1)), none]) ⟨rfl, ⟨rfl, ⟨rfl, ⟨rfl, trivial⟩⟩⟩⟩ h
set_option maxHeartbeats 4000000 in
theorem BX12_uppermost_0 {d : Nat} {Z : zZ} {I : zI} {J : zJ} {o : zO} {t u : Nat} (x1 : Int32) (hL : zLY Z t u)  (h : (∃ (v1 : Int32), zE (d + 2) kX12_isMan 0 [some (.ref 420), some (.int x1)] [] Z I J (some (.int v1), Z, I, J) ∧ ((¬ v1 = 0 → (∃ (I2 : zI), zE (d + 2) kX12_copies 0 [some (.ref 420), none] [] Z I J (none, Z, I2, J) ∧ zE (d + 3) kX12_uppermost 18 [some (.ref 420), some (.int x1), some (.int 0), some (.int 0)] [] Z I2 J o)) ∧ (v1 = 0 → o = (some (.int (-1)), Z, I, J))))) : zE (d + 3) kX12_uppermost 0 [some (.ref 420), some (.int x1), none, none] [] Z I J o := by
  refine ex_step (pc' := 1) dX12_uppermost_0 rfl ?_
  refine ex_step (pc' := 2) dX12_uppermost_1 rfl ?_
  obtain ⟨v1, hc, h⟩ := h
  refine ex_callV (as := [.int x1]) (st := []) (ci := 12) dX12_uppermost_2 zmX12_isMan zl_RX12_394 ziX12_isMan zvX12_isMan (by decide) (ly_a420 hL) rfl (Nat.le_of_ble_eq_true rfl) (Nat.le_of_ble_eq_true rfl) hc ?_
  refine ex_if (pc' := 10) dX12_uppermost_5 (by decide) (fun c => ?_) (fun c => ?_)
  · have h := h.1 c
    refine ex_step (pc' := 11) dX12_uppermost_10 rfl ?_
    obtain ⟨I2, hc, h⟩ := h
    refine ex_callV (as := []) (st := []) (ci := 12) dX12_uppermost_11 zmX12_copies zl_RX12_397 ziX12_copies zvX12_copies (by decide) (ly_a420 hL) rfl (Nat.le_of_ble_eq_true rfl) (Nat.le_of_ble_eq_true rfl) hc ?_
    refine ex_step (pc' := 15) (st' := [.int 0]) dX12_uppermost_14 rfl ?_
    refine ex_step (pc' := 16) (ls' := [some (.ref 420), some (.int x1), some (.int 0), none]) dX12_uppermost_15 rfl ?_
    refine ex_step (pc' := 17) (st' := [.int 0]) dX12_uppermost_16 rfl ?_
    refine ex_step (pc' := 18) (ls' := [some (.ref 420), some (.int x1), some (.int 0), some (.int 0)]) dX12_uppermost_17 rfl ?_
    exact h
  · have h := h.2 (Classical.not_not.mp c)
    refine ex_step (pc' := 9) (st' := [.int (-1)]) dX12_uppermost_8 rfl ?_
    rw [h]; exact ex_ret (v := some (.int (-1))) ⟨dX12_uppermost_9, _, rfl, rfl⟩
set_option maxHeartbeats 4000000 in
theorem BX12_uppermost_18 {d : Nat} {Z : zZ} {I : zI} {J : zJ} {o : zO} {t u : Nat} (x1 : Int32) (x2 : Int32) (x3 : Int32) (hL : zLY Z t u)  (h : ((288 ≤ x3 → o = (some (.int x2), Z, I, J)) ∧ (¬ 288 ≤ x3 → (∃ (v1 : Int32), zE (d + 2) kX12_topOf 0 [some (.ref 420), some (.int x3)] [] Z I J (some (.int v1), Z, I, J) ∧ ((¬ v1 = x1 → zE (d + 3) kX12_uppermost 18 [some (.ref 420), some (.int x1), some (.int x2), some (.int (x3 + 1))] [] Z I J o) ∧ (v1 = x1 → zE (d + 3) kX12_uppermost 18 [some (.ref 420), some (.int x1), some (.int (x2 + 1)), some (.int (x3 + 1))] [] Z I J o)))))) : zE (d + 3) kX12_uppermost 18 [some (.ref 420), some (.int x1), some (.int x2), some (.int x3)] [] Z I J o := by
  refine ex_step (pc' := 19) dX12_uppermost_18 rfl ?_
  refine ex_step (pc' := 22) (st' := [.int 288, .int x3]) dX12_uppermost_19 rfl ?_
  refine ex_icmp (pc' := 43) dX12_uppermost_22 (by decide) (fun c => ?_) (fun c => ?_)
  · have h := h.1 c
    refine ex_step (pc' := 44) dX12_uppermost_43 rfl ?_
    rw [h]; exact ex_ret (v := some (.int x2)) ⟨dX12_uppermost_44, _, rfl, rfl⟩
  · have h := h.2 c
    refine ex_step (pc' := 26) dX12_uppermost_25 rfl ?_
    refine ex_step (pc' := 27) dX12_uppermost_26 rfl ?_
    obtain ⟨v1, hc, h⟩ := h
    refine ex_callV (as := [.int x3]) (st := []) (ci := 12) dX12_uppermost_27 zmX12_topOf zl_RX12_452 ziX12_topOf zvX12_topOf (by decide) (ly_a420 hL) rfl (Nat.le_of_ble_eq_true rfl) (Nat.le_of_ble_eq_true rfl) hc ?_
    refine ex_step (pc' := 31) dX12_uppermost_30 rfl ?_
    refine ex_icmp (pc' := 37) dX12_uppermost_31 (by decide) (fun c => ?_) (fun c => ?_)
    · have h := h.1 c
      refine ex_step (pc' := 40) (ls' := [some (.ref 420), some (.int x1), some (.int x2), some (.int (x3 + 1))]) dX12_uppermost_37 rfl ?_
      refine ex_step (pc' := 18) dX12_uppermost_40 rfl ?_
      exact h
    · have h := h.2 (Classical.not_not.mp c)
      refine ex_step (pc' := 37) (ls' := [some (.ref 420), some (.int x1), some (.int (x2 + 1)), some (.int x3)]) dX12_uppermost_34 rfl ?_
      refine ex_step (pc' := 40) (ls' := [some (.ref 420), some (.int x1), some (.int (x2 + 1)), some (.int (x3 + 1))]) dX12_uppermost_37 rfl ?_
      refine ex_step (pc' := 18) dX12_uppermost_40 rfl ?_
      exact h
set_option maxHeartbeats 4000000 in
theorem BX12_duskBy_0 {d : Nat} {Z : zZ} {I : zI} {J : zJ} {o : zO} {t u : Nat} (x1 : Int32) (hL : zLY Z t u)  (h : (∃ (I1 : zI), zE (d + 3) kX12_copies 0 [some (.ref 420), none] [] Z I J (none, Z, I1, J) ∧ (∀ I2 : zI, I2 = zu I1 420 64 0 → (∀ I3 : zI, I3 = zu I2 420 65 0 → zE (d + 4) kX12_duskBy 16 [some (.ref 420), some (.int x1), some (.int 1), none, none, none, none] [] Z I3 J o)))) : zE (d + 4) kX12_duskBy 0 [some (.ref 420), some (.int x1), none, none, none, none, none] [] Z I J o := by
  refine ex_step (pc' := 1) dX12_duskBy_0 rfl ?_
  obtain ⟨I1, hc, h⟩ := h
  refine ex_callV (as := []) (st := []) (ci := 12) dX12_duskBy_1 zmX12_copies zl_RX12_397 ziX12_copies zvX12_copies (by decide) (ly_a420 hL) rfl (Nat.le_of_ble_eq_true rfl) (Nat.le_of_ble_eq_true rfl) hc ?_
  refine ex_step (pc' := 5) dX12_duskBy_4 rfl ?_
  refine ex_step (pc' := 6) (st' := [.int 0, .ref 420]) dX12_duskBy_5 rfl ?_
  refine ex_putiN dX12_duskBy_6 (wp_RX12_455 _) (ly_a420 hL) rfl ⟨rfl, rfl⟩ (fun I2 eI2 => ?_)
  have h := h I2 eI2
  refine ex_step (pc' := 10) dX12_duskBy_9 rfl ?_
  refine ex_step (pc' := 11) (st' := [.int 0, .ref 420]) dX12_duskBy_10 rfl ?_
  refine ex_putiN dX12_duskBy_11 (wp_RX12_458 _) (ly_a420 hL) rfl ⟨rfl, rfl⟩ (fun I3 eI3 => ?_)
  have h := h I3 eI3
  refine ex_step (pc' := 15) (st' := [.int 1]) dX12_duskBy_14 rfl ?_
  refine ex_step (pc' := 16) (ls' := [some (.ref 420), some (.int x1), some (.int 1), none, none, none, none]) dX12_duskBy_15 rfl ?_
  exact h
set_option maxHeartbeats 4000000 in
theorem BX12_duskBy_16 {d : Nat} {Z : zZ} {I : zI} {J : zJ} {o : zO} {t u : Nat} (x1 : Int32) (x2 : Int32) (hL : zLY Z t u)  (h : ((x2 = 0 → o = (none, Z, I, J)) ∧ (¬ x2 = 0 → zE (d + 4) kX12_duskBy 24 [some (.ref 420), some (.int x1), some (.int 0), some (.int 0), none, none, none] [] Z I J o))) : zE (d + 4) kX12_duskBy 16 [some (.ref 420), some (.int x1), some (.int x2), none, none, none, none] [] Z I J o := by
  refine ex_step (pc' := 17) dX12_duskBy_16 rfl ?_
  refine ex_if (pc' := 310) dX12_duskBy_17 (by decide) (fun c => ?_) (fun c => ?_)
  · have h := h.1 c
    rw [h]; exact ex_ret (v := none) ⟨dX12_duskBy_310, rfl⟩
  · have h := h.2 c
    refine ex_step (pc' := 21) (st' := [.int 0]) dX12_duskBy_20 rfl ?_
    refine ex_step (pc' := 22) (ls' := [some (.ref 420), some (.int x1), some (.int 0), none, none, none, none]) dX12_duskBy_21 rfl ?_
    refine ex_step (pc' := 23) (st' := [.int 0]) dX12_duskBy_22 rfl ?_
    refine ex_step (pc' := 24) (ls' := [some (.ref 420), some (.int x1), some (.int 0), some (.int 0), none, none, none]) dX12_duskBy_23 rfl ?_
    exact h
set_option maxHeartbeats 4000000 in
theorem BX12_duskBy_24 {d : Nat} {Z : zZ} {I : zI} {J : zJ} {o : zO} {t u : Nat} (x1 : Int32) (x2 : Int32) (x3 : Int32) (hL : zLY Z t u)  (h : (vp_in (I 420 18) 2 ∧ (((I 431 (I 420 18).toNatClampNeg) ≤ x3 → zE (d + 4) kX12_duskBy 181 [some (.ref 420), some (.int x1), some (.int x2), some (.int 0), some (.int 0), none, none] [] Z I J o) ∧ (¬ (I 431 (I 420 18).toNatClampNeg) ≤ x3 → (vp_in ((14 : Int32) + x3) 1290 ∧ (∀ y1 : Int32, y1 = ((((60 : Int32) * x3) + (I 458 ((14 : Int32) + x3).toNatClampNeg)) - 1) → ((¬ x1 = 0 → ((¬ x1 = 1 → ((¬ x1 = 2 → ((¬ x1 = 3 → (vp_in (I 420 18) 2 ∧ (∃ (v2 : Int32), zE (d + 3) kX12_lotOf 0 [some (.int (I 441 (I 420 18).toNatClampNeg)), some (.int (((2000 : Int32) + ((8 : Int32) * ((I 458 28) + (I 420 64)))) + x3)), some (.int 1000)] [] Z I J (some (.int v2), Z, I, J) ∧ (vp_in x3 7 ∧ (∀ I3 : zI, I3 = zu I 465 x3.toNatClampNeg v2 → zE (d + 4) kX12_duskBy 24 [some (.ref 420), some (.int x1), some (.int x2), some (.int (x3 + 1)), none, none, none] [] Z I3 J o))))) ∧ (x1 = 3 → (vp_in ((14 : Int32) + x3) 1290 ∧ ((¬ (I 458 ((14 : Int32) + x3).toNatClampNeg) = 0 → (vp_in ((450 : Int32) + y1) 1290 ∧ (vp_in x3 7 ∧ (∀ I4 : zI, I4 = zu I 465 x3.toNatClampNeg (I 458 ((450 : Int32) + y1).toNatClampNeg) → zE (d + 4) kX12_duskBy 24 [some (.ref 420), some (.int x1), some (.int x2), some (.int (x3 + 1)), none, none, none] [] Z I4 J o)))) ∧ ((I 458 ((14 : Int32) + x3).toNatClampNeg) = 0 → (vp_in x3 7 ∧ (∀ I5 : zI, I5 = zu I 465 x3.toNatClampNeg (-1) → zE (d + 4) kX12_duskBy 24 [some (.ref 420), some (.int x1), some (.int x2), some (.int (x3 + 1)), none, none, none] [] Z I5 J o)))))))) ∧ (x1 = 2 → (∃ (v6 : Int32) (I7 : zI), zE (d + 3) kX12_leftOf 0 [some (.ref 420), some (.int x3)] [] Z I J (some (.int v6), Z, I7, J) ∧ (vp_in x3 7 ∧ (∀ I8 : zI, I8 = zu I7 465 x3.toNatClampNeg v6 → zE (d + 4) kX12_duskBy 24 [some (.ref 420), some (.int x1), some (.int x2), some (.int (x3 + 1)), none, none, none] [] Z I8 J o)))))) ∧ (x1 = 1 → (vp_in ((14 : Int32) + x3) 1290 ∧ (vp_in x3 7 ∧ (∀ I9 : zI, I9 = zu I 465 x3.toNatClampNeg (I 458 ((14 : Int32) + x3).toNatClampNeg) → zE (d + 4) kX12_duskBy 24 [some (.ref 420), some (.int x1), some (.int x2), some (.int (x3 + 1)), none, none, none] [] Z I9 J o)))))) ∧ (x1 = 0 → (vp_in x3 7 ∧ (∀ I10 : zI, I10 = zu I 465 x3.toNatClampNeg 0 → zE (d + 4) kX12_duskBy 24 [some (.ref 420), some (.int x1), some (.int x2), some (.int (x3 + 1)), none, none, none] [] Z I10 J o)))))))))) : zE (d + 4) kX12_duskBy 24 [some (.ref 420), some (.int x1), some (.int x2), some (.int x3), none, none, none] [] Z I J o := by
  refine ex_step (pc' := 25) dX12_duskBy_24 rfl ?_
  refine ex_step (pc' := 26) dX12_duskBy_25 rfl ?_
  refine ex_getr dX12_duskBy_26 wf_RX12_49 (ly_a420 hL) rfl (ly_r420_24 hL) ?_
  refine ex_step (pc' := 30) dX12_duskBy_29 rfl ?_
  refine ex_geti dX12_duskBy_30 wf_RX12_258 (ly_a420 hL) rfl ?_
  obtain ⟨hv, h⟩ := h
  refine ex_iald dX12_duskBy_33 (Or.inl (ly_a431 hL)) hv ?_
  refine ex_icmp (pc' := 176) dX12_duskBy_34 (by decide) (fun c => ?_) (fun c => ?_)
  · have h := h.1 c
    refine ex_step (pc' := 177) (st' := [.int 0]) dX12_duskBy_176 rfl ?_
    refine ex_step (pc' := 178) (ls' := [some (.ref 420), some (.int x1), some (.int x2), some (.int 0), none, none, none]) dX12_duskBy_177 rfl ?_
    refine ex_step (pc' := 179) (st' := [.int 0]) dX12_duskBy_178 rfl ?_
    refine ex_step (pc' := 181) (ls' := [some (.ref 420), some (.int x1), some (.int x2), some (.int 0), some (.int 0), none, none]) dX12_duskBy_179 rfl ?_
    exact h
  · have h := h.2 c
    refine ex_step (pc' := 39) (st' := [.int 60]) dX12_duskBy_37 rfl ?_
    refine ex_step (pc' := 40) dX12_duskBy_39 rfl ?_
    refine ex_step (pc' := 41) dX12_duskBy_40 rfl ?_
    refine ex_step (pc' := 42) dX12_duskBy_41 rfl ?_
    refine ex_getr dX12_duskBy_42 wf_RX12_131 (ly_a420 hL) rfl (ly_r420_56 hL) ?_
    refine ex_step (pc' := 47) (st' := [.int 14, .ref 458, .int ((60 : Int32) * x3)]) dX12_duskBy_45 rfl ?_
    refine ex_step (pc' := 48) dX12_duskBy_47 rfl ?_
    refine ex_step (pc' := 49) dX12_duskBy_48 rfl ?_
    obtain ⟨hv, h⟩ := h
    refine ex_iald dX12_duskBy_49 (Or.inl (ly_a458 hL)) hv ?_
    refine ex_step (pc' := 51) dX12_duskBy_50 rfl ?_
    refine ex_step (pc' := 52) (st' := [.int 1, .int (((60 : Int32) * x3) + (I 458 ((14 : Int32) + x3).toNatClampNeg))]) dX12_duskBy_51 rfl ?_
    refine ex_step (pc' := 53) dX12_duskBy_52 rfl ?_
    refine ex_topi (fun y1 ey1 => ?_)
    have h := h y1 ey1
    refine ex_step (pc' := 55) (ls' := [some (.ref 420), some (.int x1), some (.int x2), some (.int x3), some (.int y1), none, none]) dX12_duskBy_53 rfl ?_
    refine ex_step (pc' := 56) dX12_duskBy_55 rfl ?_
    refine ex_getr dX12_duskBy_56 wf_RX12_153 (ly_a420 hL) rfl (ly_r420_66 hL) ?_
    refine ex_step (pc' := 60) dX12_duskBy_59 rfl ?_
    refine ex_step (pc' := 61) dX12_duskBy_60 rfl ?_
    refine ex_if (pc' := 68) dX12_duskBy_61 (by decide) (fun c => ?_) (fun c => ?_)
    · have h := h.1 c
      refine ex_step (pc' := 69) dX12_duskBy_68 rfl ?_
      refine ex_step (pc' := 70) (st' := [.int 1, .int x1, .int x3, .ref 465]) dX12_duskBy_69 rfl ?_
      refine ex_icmp (pc' := 85) dX12_duskBy_70 (by decide) (fun c => ?_) (fun c => ?_)
      · have h := h.1 c
        refine ex_step (pc' := 86) dX12_duskBy_85 rfl ?_
        refine ex_step (pc' := 87) (st' := [.int 2, .int x1, .int x3, .ref 465]) dX12_duskBy_86 rfl ?_
        refine ex_icmp (pc' := 98) dX12_duskBy_87 (by decide) (fun c => ?_) (fun c => ?_)
        · have h := h.1 c
          refine ex_step (pc' := 99) dX12_duskBy_98 rfl ?_
          refine ex_step (pc' := 100) (st' := [.int 3, .int x1, .int x3, .ref 465]) dX12_duskBy_99 rfl ?_
          refine ex_icmp (pc' := 133) dX12_duskBy_100 (by decide) (fun c => ?_) (fun c => ?_)
          · have h := h.1 c
            refine ex_step (pc' := 134) dX12_duskBy_133 rfl ?_
            refine ex_getr dX12_duskBy_134 wf_RX12_79 (ly_a420 hL) rfl (ly_r420_34 hL) ?_
            refine ex_step (pc' := 138) dX12_duskBy_137 rfl ?_
            refine ex_geti dX12_duskBy_138 wf_RX12_258 (ly_a420 hL) rfl ?_
            obtain ⟨hv, h⟩ := h
            refine ex_iald dX12_duskBy_141 (Or.inl (ly_a441 hL)) hv ?_
            refine ex_step (pc' := 145) (st' := [.int 2000, .int (I 441 (I 420 18).toNatClampNeg), .int x3, .ref 465]) dX12_duskBy_142 rfl ?_
            refine ex_step (pc' := 147) (st' := [.int 8, .int 2000, .int (I 441 (I 420 18).toNatClampNeg), .int x3, .ref 465]) dX12_duskBy_145 rfl ?_
            refine ex_step (pc' := 148) dX12_duskBy_147 rfl ?_
            refine ex_getr dX12_duskBy_148 wf_RX12_131 (ly_a420 hL) rfl (ly_r420_56 hL) ?_
            refine ex_step (pc' := 153) (st' := [.int 28, .ref 458, .int 8, .int 2000, .int (I 441 (I 420 18).toNatClampNeg), .int x3, .ref 465]) dX12_duskBy_151 rfl ?_
            have hv : vp_in 28 1290 := by unfold vp_in; decide
            refine ex_iald dX12_duskBy_153 (Or.inl (ly_a458 hL)) hv ?_
            refine ex_step (pc' := 155) dX12_duskBy_154 rfl ?_
            refine ex_geti dX12_duskBy_155 wf_RX12_455 (ly_a420 hL) rfl ?_
            refine ex_step (pc' := 159) dX12_duskBy_158 rfl ?_
            refine ex_step (pc' := 160) dX12_duskBy_159 rfl ?_
            refine ex_step (pc' := 161) dX12_duskBy_160 rfl ?_
            refine ex_step (pc' := 162) dX12_duskBy_161 rfl ?_
            refine ex_step (pc' := 163) dX12_duskBy_162 rfl ?_
            refine ex_step (pc' := 166) (st' := [.int 1000, .int (((2000 : Int32) + ((8 : Int32) * ((I 458 28) + (I 420 64)))) + x3), .int (I 441 (I 420 18).toNatClampNeg), .int x3, .ref 465]) dX12_duskBy_163 rfl ?_
            obtain ⟨v2, hc, h⟩ := h
            refine ex_callS (as := [.int (I 441 (I 420 18).toNatClampNeg), .int (((2000 : Int32) + ((8 : Int32) * ((I 458 28) + (I 420 64)))) + x3), .int 1000]) (st := [.int x3, .ref 465]) dX12_duskBy_166 zmX12_lotOf zl_RX12_365 zsX12_lotOf rfl (Nat.le_of_ble_eq_true rfl) (Nat.le_of_ble_eq_true rfl) hc ?_
            obtain ⟨hv, h⟩ := h
            refine ex_iastN dX12_duskBy_169 (ly_a465 hL) hv (fun I3 eI3 => ?_)
            have h := h I3 eI3
            refine ex_step (pc' := 173) (ls' := [some (.ref 420), some (.int x1), some (.int x2), some (.int (x3 + 1)), some (.int y1), none, none]) dX12_duskBy_170 rfl ?_
            refine ex_step (pc' := 24) dX12_duskBy_173 rfl ?_
            exact ex_less (ls' := [some (.ref 420), some (.int x1), some (.int x2), some (.int (x3 + 1)), none, none, none]) ⟨rfl, ⟨rfl, ⟨rfl, ⟨rfl, trivial⟩⟩⟩⟩ h
          · have h := h.2 (Classical.not_not.mp c)
            refine ex_step (pc' := 104) dX12_duskBy_103 rfl ?_
            refine ex_getr dX12_duskBy_104 wf_RX12_131 (ly_a420 hL) rfl (ly_r420_56 hL) ?_
            refine ex_step (pc' := 109) (st' := [.int 14, .ref 458, .int x3, .ref 465]) dX12_duskBy_107 rfl ?_
            refine ex_step (pc' := 110) dX12_duskBy_109 rfl ?_
            refine ex_step (pc' := 111) dX12_duskBy_110 rfl ?_
            obtain ⟨hv, h⟩ := h
            refine ex_iald dX12_duskBy_111 (Or.inl (ly_a458 hL)) hv ?_
            refine ex_if (pc' := 119) dX12_duskBy_112 (by decide) (fun c => ?_) (fun c => ?_)
            · have h := h.1 c
              refine ex_step (pc' := 120) dX12_duskBy_119 rfl ?_
              refine ex_getr dX12_duskBy_120 wf_RX12_131 (ly_a420 hL) rfl (ly_r420_56 hL) ?_
              refine ex_step (pc' := 126) (st' := [.int 450, .ref 458, .int x3, .ref 465]) dX12_duskBy_123 rfl ?_
              refine ex_step (pc' := 128) dX12_duskBy_126 rfl ?_
              refine ex_step (pc' := 129) dX12_duskBy_128 rfl ?_
              obtain ⟨hv, h⟩ := h
              refine ex_iald dX12_duskBy_129 (Or.inl (ly_a458 hL)) hv ?_
              refine ex_step (pc' := 169) dX12_duskBy_130 rfl ?_
              obtain ⟨hv, h⟩ := h
              refine ex_iastN dX12_duskBy_169 (ly_a465 hL) hv (fun I4 eI4 => ?_)
              have h := h I4 eI4
              refine ex_step (pc' := 173) (ls' := [some (.ref 420), some (.int x1), some (.int x2), some (.int (x3 + 1)), some (.int y1), none, none]) dX12_duskBy_170 rfl ?_
              refine ex_step (pc' := 24) dX12_duskBy_173 rfl ?_
              exact ex_less (ls' := [some (.ref 420), some (.int x1), some (.int x2), some (.int (x3 + 1)), none, none, none]) ⟨rfl, ⟨rfl, ⟨rfl, ⟨rfl, trivial⟩⟩⟩⟩ h
            · have h := h.2 (Classical.not_not.mp c)
              refine ex_step (pc' := 116) (st' := [.int (-1), .int x3, .ref 465]) dX12_duskBy_115 rfl ?_
              refine ex_step (pc' := 169) dX12_duskBy_116 rfl ?_
              obtain ⟨hv, h⟩ := h
              refine ex_iastN dX12_duskBy_169 (ly_a465 hL) hv (fun I5 eI5 => ?_)
              have h := h I5 eI5
              refine ex_step (pc' := 173) (ls' := [some (.ref 420), some (.int x1), some (.int x2), some (.int (x3 + 1)), some (.int y1), none, none]) dX12_duskBy_170 rfl ?_
              refine ex_step (pc' := 24) dX12_duskBy_173 rfl ?_
              exact ex_less (ls' := [some (.ref 420), some (.int x1), some (.int x2), some (.int (x3 + 1)), none, none, none]) ⟨rfl, ⟨rfl, ⟨rfl, ⟨rfl, trivial⟩⟩⟩⟩ h
        · have h := h.2 (Classical.not_not.mp c)
          refine ex_step (pc' := 91) dX12_duskBy_90 rfl ?_
          refine ex_step (pc' := 92) dX12_duskBy_91 rfl ?_
          obtain ⟨v6, I7, hc, h⟩ := h
          refine ex_callV (as := [.int x3]) (st := [.int x3, .ref 465]) (ci := 12) dX12_duskBy_92 zmX12_leftOf zl_RX12_362 ziX12_leftOf zvX12_leftOf (by decide) (ly_a420 hL) rfl (Nat.le_of_ble_eq_true rfl) (Nat.le_of_ble_eq_true rfl) hc ?_
          refine ex_step (pc' := 169) dX12_duskBy_95 rfl ?_
          obtain ⟨hv, h⟩ := h
          refine ex_iastN dX12_duskBy_169 (ly_a465 hL) hv (fun I8 eI8 => ?_)
          have h := h I8 eI8
          refine ex_step (pc' := 173) (ls' := [some (.ref 420), some (.int x1), some (.int x2), some (.int (x3 + 1)), some (.int y1), none, none]) dX12_duskBy_170 rfl ?_
          refine ex_step (pc' := 24) dX12_duskBy_173 rfl ?_
          exact ex_less (ls' := [some (.ref 420), some (.int x1), some (.int x2), some (.int (x3 + 1)), none, none, none]) ⟨rfl, ⟨rfl, ⟨rfl, ⟨rfl, trivial⟩⟩⟩⟩ h
      · have h := h.2 (Classical.not_not.mp c)
        refine ex_step (pc' := 74) dX12_duskBy_73 rfl ?_
        refine ex_getr dX12_duskBy_74 wf_RX12_131 (ly_a420 hL) rfl (ly_r420_56 hL) ?_
        refine ex_step (pc' := 79) (st' := [.int 14, .ref 458, .int x3, .ref 465]) dX12_duskBy_77 rfl ?_
        refine ex_step (pc' := 80) dX12_duskBy_79 rfl ?_
        refine ex_step (pc' := 81) dX12_duskBy_80 rfl ?_
        obtain ⟨hv, h⟩ := h
        refine ex_iald dX12_duskBy_81 (Or.inl (ly_a458 hL)) hv ?_
        refine ex_step (pc' := 169) dX12_duskBy_82 rfl ?_
        obtain ⟨hv, h⟩ := h
        refine ex_iastN dX12_duskBy_169 (ly_a465 hL) hv (fun I9 eI9 => ?_)
        have h := h I9 eI9
        refine ex_step (pc' := 173) (ls' := [some (.ref 420), some (.int x1), some (.int x2), some (.int (x3 + 1)), some (.int y1), none, none]) dX12_duskBy_170 rfl ?_
        refine ex_step (pc' := 24) dX12_duskBy_173 rfl ?_
        exact ex_less (ls' := [some (.ref 420), some (.int x1), some (.int x2), some (.int (x3 + 1)), none, none, none]) ⟨rfl, ⟨rfl, ⟨rfl, ⟨rfl, trivial⟩⟩⟩⟩ h
    · have h := h.2 (Classical.not_not.mp c)
      refine ex_step (pc' := 65) (st' := [.int 0, .int x3, .ref 465]) dX12_duskBy_64 rfl ?_
      refine ex_step (pc' := 169) dX12_duskBy_65 rfl ?_
      obtain ⟨hv, h⟩ := h
      refine ex_iastN dX12_duskBy_169 (ly_a465 hL) hv (fun I10 eI10 => ?_)
      have h := h I10 eI10
      refine ex_step (pc' := 173) (ls' := [some (.ref 420), some (.int x1), some (.int x2), some (.int (x3 + 1)), some (.int y1), none, none]) dX12_duskBy_170 rfl ?_
      refine ex_step (pc' := 24) dX12_duskBy_173 rfl ?_
      exact ex_less (ls' := [some (.ref 420), some (.int x1), some (.int x2), some (.int (x3 + 1)), none, none, none]) ⟨rfl, ⟨rfl, ⟨rfl, ⟨rfl, trivial⟩⟩⟩⟩ h
set_option maxHeartbeats 4000000 in
theorem BX12_duskBy_181 {d : Nat} {Z : zZ} {I : zI} {J : zJ} {o : zO} {t u : Nat} (x1 : Int32) (x2 : Int32) (x3 : Int32) (x4 : Int32) (hL : zLY Z t u)  (h : (vp_in (I 420 18) 2 ∧ (((I 431 (I 420 18).toNatClampNeg) ≤ x4 → ((x2 = 0 → zE (d + 4) kX12_duskBy 16 [some (.ref 420), some (.int x1), some (.int x2), none, none, none, none] [] Z I J o) ∧ (¬ x2 = 0 → (∀ I1 : zI, I1 = zu I 420 64 ((I 420 64) + 1) → zE (d + 4) kX12_duskBy 16 [some (.ref 420), some (.int x1), some (.int x2), none, none, none, none] [] Z I1 J o)))) ∧ (¬ (I 431 (I 420 18).toNatClampNeg) ≤ x4 → zE (d + 4) kX12_duskBy 201 [some (.ref 420), some (.int x1), some (.int x2), some (.int x3), some (.int x4), some (.int (-1)), some (.int 0)] [] Z I J o)))) : zE (d + 4) kX12_duskBy 181 [some (.ref 420), some (.int x1), some (.int x2), some (.int x3), some (.int x4), none, none] [] Z I J o := by
  refine ex_step (pc' := 183) dX12_duskBy_181 rfl ?_
  refine ex_step (pc' := 184) dX12_duskBy_183 rfl ?_
  refine ex_getr dX12_duskBy_184 wf_RX12_49 (ly_a420 hL) rfl (ly_r420_24 hL) ?_
  refine ex_step (pc' := 188) dX12_duskBy_187 rfl ?_
  refine ex_geti dX12_duskBy_188 wf_RX12_258 (ly_a420 hL) rfl ?_
  obtain ⟨hv, h⟩ := h
  refine ex_iald dX12_duskBy_191 (Or.inl (ly_a431 hL)) hv ?_
  refine ex_icmp (pc' := 293) dX12_duskBy_192 (by decide) (fun c => ?_) (fun c => ?_)
  · have h := h.1 c
    refine ex_step (pc' := 294) dX12_duskBy_293 rfl ?_
    refine ex_if (pc' := 307) dX12_duskBy_294 (by decide) (fun c => ?_) (fun c => ?_)
    · have h := h.1 c
      refine ex_step (pc' := 16) dX12_duskBy_307 rfl ?_
      exact ex_less (ls' := [some (.ref 420), some (.int x1), some (.int x2), none, none, none, none]) ⟨rfl, ⟨rfl, ⟨rfl, trivial⟩⟩⟩ h
    · have h := h.2 c
      refine ex_step (pc' := 298) dX12_duskBy_297 rfl ?_
      refine ex_step (pc' := 299) dX12_duskBy_298 rfl ?_
      refine ex_geti dX12_duskBy_299 wf_RX12_455 (ly_a420 hL) rfl ?_
      refine ex_step (pc' := 303) (st' := [.int 1, .int (I 420 64), .ref 420]) dX12_duskBy_302 rfl ?_
      refine ex_step (pc' := 304) dX12_duskBy_303 rfl ?_
      refine ex_putiN dX12_duskBy_304 (wp_RX12_455 _) (ly_a420 hL) rfl ⟨rfl, rfl⟩ (fun I1 eI1 => ?_)
      have h := h I1 eI1
      refine ex_step (pc' := 16) dX12_duskBy_307 rfl ?_
      exact ex_less (ls' := [some (.ref 420), some (.int x1), some (.int x2), none, none, none, none]) ⟨rfl, ⟨rfl, ⟨rfl, trivial⟩⟩⟩ h
  · have h := h.2 c
    refine ex_step (pc' := 196) (st' := [.int (-1)]) dX12_duskBy_195 rfl ?_
    refine ex_step (pc' := 198) (ls' := [some (.ref 420), some (.int x1), some (.int x2), some (.int x3), some (.int x4), some (.int (-1)), none]) dX12_duskBy_196 rfl ?_
    refine ex_step (pc' := 199) (st' := [.int 0]) dX12_duskBy_198 rfl ?_
    refine ex_step (pc' := 201) (ls' := [some (.ref 420), some (.int x1), some (.int x2), some (.int x3), some (.int x4), some (.int (-1)), some (.int 0)]) dX12_duskBy_199 rfl ?_
    exact h
set_option maxHeartbeats 4000000 in
theorem BX12_duskBy_201 {d : Nat} {Z : zZ} {I : zI} {J : zJ} {o : zO} {t u : Nat} (x1 : Int32) (x2 : Int32) (x3 : Int32) (x4 : Int32) (x5 : Int32) (x6 : Int32) (hL : zLY Z t u)  (h : (vp_in (I 420 18) 2 ∧ (((I 431 (I 420 18).toNatClampNeg) ≤ x6 → (∀ y1 : Int32, y1 = (x3 ||| ((1 : Int32) <<< (x5 &&& 31))) → (∃ (v2 : Int32) (I3 : zI), zE (d + 3) kX12_winds 0 [some (.ref 420), some (.int x5), none] [] Z I J (some (.int v2), Z, I3, J) ∧ ((¬ v2 = 0 → (∀ I4 : zI, I4 = zu I3 420 65 ((I3 420 65) + 1) → zE (d + 4) kX12_duskBy 181 [some (.ref 420), some (.int x1), some (.int 1), some (.int y1), some (.int (x4 + 1)), none, none] [] Z I4 J o)) ∧ (v2 = 0 → zE (d + 4) kX12_duskBy 181 [some (.ref 420), some (.int x1), some (.int x2), some (.int y1), some (.int (x4 + 1)), none, none] [] Z I3 J o))))) ∧ (¬ (I 431 (I 420 18).toNatClampNeg) ≤ x6 → ((¬ ((x3 >>> (x6 &&& 31)) &&& 1) = 0 → zE (d + 4) kX12_duskBy 201 [some (.ref 420), some (.int x1), some (.int x2), some (.int x3), some (.int x4), some (.int x5), some (.int (x6 + 1))] [] Z I J o) ∧ (((x3 >>> (x6 &&& 31)) &&& 1) = 0 → ((x5 < 0 → zE (d + 4) kX12_duskBy 201 [some (.ref 420), some (.int x1), some (.int x2), some (.int x3), some (.int x4), some (.int x6), some (.int (x6 + 1))] [] Z I J o) ∧ (¬ x5 < 0 → (vp_in x6 7 ∧ (vp_in x5 7 ∧ (((I 465 x6.toNatClampNeg) ≤ (I 465 x5.toNatClampNeg) → zE (d + 4) kX12_duskBy 201 [some (.ref 420), some (.int x1), some (.int x2), some (.int x3), some (.int x4), some (.int x5), some (.int (x6 + 1))] [] Z I J o) ∧ (¬ (I 465 x6.toNatClampNeg) ≤ (I 465 x5.toNatClampNeg) → zE (d + 4) kX12_duskBy 201 [some (.ref 420), some (.int x1), some (.int x2), some (.int x3), some (.int x4), some (.int x6), some (.int (x6 + 1))] [] Z I J o)))))))))))) : zE (d + 4) kX12_duskBy 201 [some (.ref 420), some (.int x1), some (.int x2), some (.int x3), some (.int x4), some (.int x5), some (.int x6)] [] Z I J o := by
  refine ex_step (pc' := 203) dX12_duskBy_201 rfl ?_
  refine ex_step (pc' := 204) dX12_duskBy_203 rfl ?_
  refine ex_getr dX12_duskBy_204 wf_RX12_49 (ly_a420 hL) rfl (ly_r420_24 hL) ?_
  refine ex_step (pc' := 208) dX12_duskBy_207 rfl ?_
  refine ex_geti dX12_duskBy_208 wf_RX12_258 (ly_a420 hL) rfl ?_
  obtain ⟨hv, h⟩ := h
  refine ex_iald dX12_duskBy_211 (Or.inl (ly_a431 hL)) hv ?_
  refine ex_icmp (pc' := 256) dX12_duskBy_212 (by decide) (fun c => ?_) (fun c => ?_)
  · have h := h.1 c
    refine ex_step (pc' := 257) dX12_duskBy_256 rfl ?_
    refine ex_step (pc' := 258) (st' := [.int 1, .int x3]) dX12_duskBy_257 rfl ?_
    refine ex_step (pc' := 260) dX12_duskBy_258 rfl ?_
    refine ex_step (pc' := 261) dX12_duskBy_260 rfl ?_
    refine ex_step (pc' := 262) dX12_duskBy_261 rfl ?_
    refine ex_topi (fun y1 ey1 => ?_)
    have h := h y1 ey1
    refine ex_step (pc' := 263) (ls' := [some (.ref 420), some (.int x1), some (.int x2), some (.int y1), some (.int x4), some (.int x5), some (.int x6)]) dX12_duskBy_262 rfl ?_
    refine ex_step (pc' := 264) dX12_duskBy_263 rfl ?_
    refine ex_step (pc' := 266) dX12_duskBy_264 rfl ?_
    obtain ⟨v2, I3, hc, h⟩ := h
    refine ex_callV (as := [.int x5]) (st := []) (ci := 12) dX12_duskBy_266 zmX12_winds zl_RX12_391 ziX12_winds zvX12_winds (by decide) (ly_a420 hL) rfl (Nat.le_of_ble_eq_true rfl) (Nat.le_of_ble_eq_true rfl) hc ?_
    refine ex_if (pc' := 275) dX12_duskBy_269 (by decide) (fun c => ?_) (fun c => ?_)
    · have h := h.1 c
      refine ex_step (pc' := 276) (st' := [.int 1]) dX12_duskBy_275 rfl ?_
      refine ex_step (pc' := 277) (ls' := [some (.ref 420), some (.int x1), some (.int 1), some (.int y1), some (.int x4), some (.int x5), some (.int x6)]) dX12_duskBy_276 rfl ?_
      refine ex_step (pc' := 278) dX12_duskBy_277 rfl ?_
      refine ex_step (pc' := 279) dX12_duskBy_278 rfl ?_
      refine ex_geti dX12_duskBy_279 wf_RX12_458 (ly_a420 hL) rfl ?_
      refine ex_step (pc' := 283) (st' := [.int 1, .int (I3 420 65), .ref 420]) dX12_duskBy_282 rfl ?_
      refine ex_step (pc' := 284) dX12_duskBy_283 rfl ?_
      refine ex_putiN dX12_duskBy_284 (wp_RX12_458 _) (ly_a420 hL) rfl ⟨rfl, rfl⟩ (fun I4 eI4 => ?_)
      have h := h I4 eI4
      refine ex_step (pc' := 290) (ls' := [some (.ref 420), some (.int x1), some (.int 1), some (.int y1), some (.int (x4 + 1)), some (.int x5), some (.int x6)]) dX12_duskBy_287 rfl ?_
      refine ex_step (pc' := 181) dX12_duskBy_290 rfl ?_
      exact ex_less (ls' := [some (.ref 420), some (.int x1), some (.int 1), some (.int y1), some (.int (x4 + 1)), none, none]) ⟨rfl, ⟨rfl, ⟨rfl, ⟨rfl, ⟨rfl, trivial⟩⟩⟩⟩⟩ h
    · have h := h.2 (Classical.not_not.mp c)
      refine ex_step (pc' := 287) dX12_duskBy_272 rfl ?_
      refine ex_step (pc' := 290) (ls' := [some (.ref 420), some (.int x1), some (.int x2), some (.int y1), some (.int (x4 + 1)), some (.int x5), some (.int x6)]) dX12_duskBy_287 rfl ?_
      refine ex_step (pc' := 181) dX12_duskBy_290 rfl ?_
      exact ex_less (ls' := [some (.ref 420), some (.int x1), some (.int x2), some (.int y1), some (.int (x4 + 1)), none, none]) ⟨rfl, ⟨rfl, ⟨rfl, ⟨rfl, ⟨rfl, trivial⟩⟩⟩⟩⟩ h
  · have h := h.2 c
    refine ex_step (pc' := 216) dX12_duskBy_215 rfl ?_
    refine ex_step (pc' := 218) dX12_duskBy_216 rfl ?_
    refine ex_step (pc' := 219) dX12_duskBy_218 rfl ?_
    refine ex_step (pc' := 220) (st' := [.int 1, .int (x3 >>> (x6 &&& 31))]) dX12_duskBy_219 rfl ?_
    refine ex_step (pc' := 221) dX12_duskBy_220 rfl ?_
    refine ex_if (pc' := 250) dX12_duskBy_221 (by decide) (fun c => ?_) (fun c => ?_)
    · have h := h.1 c
      refine ex_step (pc' := 253) (ls' := [some (.ref 420), some (.int x1), some (.int x2), some (.int x3), some (.int x4), some (.int x5), some (.int (x6 + 1))]) dX12_duskBy_250 rfl ?_
      refine ex_step (pc' := 201) dX12_duskBy_253 rfl ?_
      exact h
    · have h := h.2 (Classical.not_not.mp c)
      refine ex_step (pc' := 226) dX12_duskBy_224 rfl ?_
      refine ex_if (pc' := 246) dX12_duskBy_226 (by decide) (fun c => ?_) (fun c => ?_)
      · have h := h.1 c
        refine ex_step (pc' := 248) dX12_duskBy_246 rfl ?_
        refine ex_step (pc' := 250) (ls' := [some (.ref 420), some (.int x1), some (.int x2), some (.int x3), some (.int x4), some (.int x6), some (.int x6)]) dX12_duskBy_248 rfl ?_
        refine ex_step (pc' := 253) (ls' := [some (.ref 420), some (.int x1), some (.int x2), some (.int x3), some (.int x4), some (.int x6), some (.int (x6 + 1))]) dX12_duskBy_250 rfl ?_
        refine ex_step (pc' := 201) dX12_duskBy_253 rfl ?_
        exact h
      · have h := h.2 c
        refine ex_step (pc' := 230) dX12_duskBy_229 rfl ?_
        refine ex_getr dX12_duskBy_230 wf_RX12_153 (ly_a420 hL) rfl (ly_r420_66 hL) ?_
        refine ex_step (pc' := 235) dX12_duskBy_233 rfl ?_
        obtain ⟨hv, h⟩ := h
        refine ex_iald dX12_duskBy_235 (Or.inl (ly_a465 hL)) hv ?_
        refine ex_step (pc' := 237) dX12_duskBy_236 rfl ?_
        refine ex_getr dX12_duskBy_237 wf_RX12_153 (ly_a420 hL) rfl (ly_r420_66 hL) ?_
        refine ex_step (pc' := 242) dX12_duskBy_240 rfl ?_
        obtain ⟨hv, h⟩ := h
        refine ex_iald dX12_duskBy_242 (Or.inl (ly_a465 hL)) hv ?_
        refine ex_icmp (pc' := 250) dX12_duskBy_243 (by decide) (fun c => ?_) (fun c => ?_)
        · have h := h.1 c
          refine ex_step (pc' := 253) (ls' := [some (.ref 420), some (.int x1), some (.int x2), some (.int x3), some (.int x4), some (.int x5), some (.int (x6 + 1))]) dX12_duskBy_250 rfl ?_
          refine ex_step (pc' := 201) dX12_duskBy_253 rfl ?_
          exact h
        · have h := h.2 c
          refine ex_step (pc' := 248) dX12_duskBy_246 rfl ?_
          refine ex_step (pc' := 250) (ls' := [some (.ref 420), some (.int x1), some (.int x2), some (.int x3), some (.int x4), some (.int x6), some (.int x6)]) dX12_duskBy_248 rfl ?_
          refine ex_step (pc' := 253) (ls' := [some (.ref 420), some (.int x1), some (.int x2), some (.int x3), some (.int x4), some (.int x6), some (.int (x6 + 1))]) dX12_duskBy_250 rfl ?_
          refine ex_step (pc' := 201) dX12_duskBy_253 rfl ?_
          exact h
set_option maxHeartbeats 4000000 in
theorem BX12_dusk_0 {d : Nat} {Z : zZ} {I : zI} {J : zJ} {o : zO} {t u : Nat} (x1 : Int32) (x2 : Int32) (hL : zLY Z t u)  (h : (((zbi (0 ≤ x1 ∧ x1 ≤ 4)) = 0 → o = (some (.int (-1)), Z, I, J)) ∧ (¬ (zbi (0 ≤ x1 ∧ x1 ≤ 4)) = 0 → ((¬ (zbi (0 ≤ x2 ∧ x2 ≤ 3)) = 0 → (∃ (I1 : zI), zE (d + 4) kX12_duskBy 0 [some (.ref 420), some (.int x1), none, none, none, none, none] [] Z I J (none, Z, I1, J) ∧ ((¬ x2 = 0 → ((¬ x2 = 1 → zE (d + 5) kX12_dusk 52 [some (.ref 420), none, some (.int x2), some (.int 0), some (.int 0), some (.int 0)] [] Z I1 J o) ∧ (x2 = 1 → o = (some (.int (I1 420 65)), Z, I1, J)))) ∧ (x2 = 0 → o = (some (.int (I1 420 64)), Z, I1, J))))) ∧ ((zbi (0 ≤ x2 ∧ x2 ≤ 3)) = 0 → o = (some (.int (-1)), Z, I, J)))))) : zE (d + 5) kX12_dusk 0 [some (.ref 420), some (.int x1), some (.int x2), none, none, none] [] Z I J o := by
  refine ex_step (pc' := 1) dX12_dusk_0 rfl ?_
  refine ex_step (pc' := 2) (st' := [.int 0, .int x1]) dX12_dusk_1 rfl ?_
  refine ex_step (pc' := 3) (st' := [.int 4, .int 0, .int x1]) dX12_dusk_2 rfl ?_
  refine ex_callS (as := [.int x1, .int 0, .int 4]) (st := []) dX12_dusk_3 zmX12_in zl_RX12_345 zsX12_in rfl (Nat.le_of_ble_eq_true rfl) (Nat.le_of_ble_eq_true rfl) M_in ?_
  refine ex_if (pc' := 18) dX12_dusk_6 (by decide) (fun c => ?_) (fun c => ?_)
  · have h := h.1 c
    refine ex_step (pc' := 19) (st' := [.int (-1)]) dX12_dusk_18 rfl ?_
    rw [h]; exact ex_ret (v := some (.int (-1))) ⟨dX12_dusk_19, _, rfl, rfl⟩
  · have h := h.2 c
    refine ex_step (pc' := 10) dX12_dusk_9 rfl ?_
    refine ex_step (pc' := 11) (st' := [.int 0, .int x2]) dX12_dusk_10 rfl ?_
    refine ex_step (pc' := 12) (st' := [.int 3, .int 0, .int x2]) dX12_dusk_11 rfl ?_
    refine ex_callS (as := [.int x2, .int 0, .int 3]) (st := []) dX12_dusk_12 zmX12_in zl_RX12_345 zsX12_in rfl (Nat.le_of_ble_eq_true rfl) (Nat.le_of_ble_eq_true rfl) M_in ?_
    refine ex_if (pc' := 20) dX12_dusk_15 (by decide) (fun c => ?_) (fun c => ?_)
    · have h := h.1 c
      refine ex_step (pc' := 21) dX12_dusk_20 rfl ?_
      refine ex_step (pc' := 22) dX12_dusk_21 rfl ?_
      obtain ⟨I1, hc, h⟩ := h
      refine ex_callV (as := [.int x1]) (st := []) (ci := 12) dX12_dusk_22 zmX12_duskBy zl_RX12_461 ziX12_duskBy zvX12_duskBy (by decide) (ly_a420 hL) rfl (Nat.le_of_ble_eq_true rfl) (Nat.le_of_ble_eq_true rfl) hc ?_
      refine ex_step (pc' := 26) dX12_dusk_25 rfl ?_
      refine ex_if (pc' := 34) dX12_dusk_26 (by decide) (fun c => ?_) (fun c => ?_)
      · have h := h.1 c
        refine ex_step (pc' := 35) dX12_dusk_34 rfl ?_
        refine ex_step (pc' := 36) (st' := [.int 1, .int x2]) dX12_dusk_35 rfl ?_
        refine ex_icmp (pc' := 44) dX12_dusk_36 (by decide) (fun c => ?_) (fun c => ?_)
        · have h := h.1 c
          refine ex_step (pc' := 45) (st' := [.int 0]) dX12_dusk_44 rfl ?_
          refine ex_step (pc' := 46) (ls' := [some (.ref 420), some (.int x1), some (.int x2), some (.int 0), none, none]) dX12_dusk_45 rfl ?_
          refine ex_step (pc' := 47) (st' := [.int 0]) dX12_dusk_46 rfl ?_
          refine ex_step (pc' := 49) (ls' := [some (.ref 420), some (.int x1), some (.int x2), some (.int 0), some (.int 0), none]) dX12_dusk_47 rfl ?_
          refine ex_step (pc' := 50) (st' := [.int 0]) dX12_dusk_49 rfl ?_
          refine ex_step (pc' := 52) (ls' := [some (.ref 420), some (.int x1), some (.int x2), some (.int 0), some (.int 0), some (.int 0)]) dX12_dusk_50 rfl ?_
          exact ex_less (ls' := [some (.ref 420), none, some (.int x2), some (.int 0), some (.int 0), some (.int 0)]) ⟨rfl, ⟨rfl, ⟨rfl, ⟨rfl, ⟨rfl, trivial⟩⟩⟩⟩⟩ h
        · have h := h.2 (Classical.not_not.mp c)
          refine ex_step (pc' := 40) dX12_dusk_39 rfl ?_
          refine ex_geti dX12_dusk_40 wf_RX12_458 (ly_a420 hL) rfl ?_
          rw [h]; exact ex_ret (v := some (.int (I1 420 65))) ⟨dX12_dusk_43, _, rfl, rfl⟩
      · have h := h.2 (Classical.not_not.mp c)
        refine ex_step (pc' := 30) dX12_dusk_29 rfl ?_
        refine ex_geti dX12_dusk_30 wf_RX12_455 (ly_a420 hL) rfl ?_
        rw [h]; exact ex_ret (v := some (.int (I1 420 64))) ⟨dX12_dusk_33, _, rfl, rfl⟩
    · have h := h.2 (Classical.not_not.mp c)
      refine ex_step (pc' := 19) (st' := [.int (-1)]) dX12_dusk_18 rfl ?_
      rw [h]; exact ex_ret (v := some (.int (-1))) ⟨dX12_dusk_19, _, rfl, rfl⟩
set_option maxHeartbeats 4000000 in
theorem BX12_dusk_52 {d : Nat} {Z : zZ} {I : zI} {J : zJ} {o : zO} {t u : Nat} (x2 : Int32) (x3 : Int32) (x4 : Int32) (x5 : Int32) (hL : zLY Z t u)  (h : (vp_in (I 420 18) 2 ∧ (((I 431 (I 420 18).toNatClampNeg) ≤ x5 → ((¬ x2 = 2 → o = (some (.int x4), Z, I, J)) ∧ (x2 = 2 → o = (some (.int x3), Z, I, J)))) ∧ (¬ (I 431 (I 420 18).toNatClampNeg) ≤ x5 → (vp_in ((21 : Int32) + x5) 1290 ∧ ((¬ (I 458 ((21 : Int32) + x5).toNatClampNeg) = 0 → (vp_in ((14 : Int32) + x5) 1290 ∧ (((I 458 ((14 : Int32) + x5).toNatClampNeg) ≤ 0 → zE (d + 5) kX12_dusk 52 [some (.ref 420), none, some (.int x2), some (.int x3), some (.int x4), some (.int (x5 + 1))] [] Z I J o) ∧ (¬ (I 458 ((14 : Int32) + x5).toNatClampNeg) ≤ 0 → (∀ y1 : Int32, y1 = (x4 ||| ((1 : Int32) <<< (x5 &&& 31))) → zE (d + 5) kX12_dusk 52 [some (.ref 420), none, some (.int x2), some (.int x3), some (.int y1), some (.int (x5 + 1))] [] Z I J o))))) ∧ ((I 458 ((21 : Int32) + x5).toNatClampNeg) = 0 → (vp_in ((14 : Int32) + x5) 1290 ∧ ((¬ (I 458 ((14 : Int32) + x5).toNatClampNeg) = 0 → (vp_in ((14 : Int32) + x5) 1290 ∧ (((I 458 ((14 : Int32) + x5).toNatClampNeg) ≤ 0 → zE (d + 5) kX12_dusk 52 [some (.ref 420), none, some (.int x2), some (.int x3), some (.int x4), some (.int (x5 + 1))] [] Z I J o) ∧ (¬ (I 458 ((14 : Int32) + x5).toNatClampNeg) ≤ 0 → (∀ y2 : Int32, y2 = (x4 ||| ((1 : Int32) <<< (x5 &&& 31))) → zE (d + 5) kX12_dusk 52 [some (.ref 420), none, some (.int x2), some (.int x3), some (.int y2), some (.int (x5 + 1))] [] Z I J o))))) ∧ ((I 458 ((14 : Int32) + x5).toNatClampNeg) = 0 → (∀ y3 : Int32, y3 = (x3 ||| ((1 : Int32) <<< (x5 &&& 31))) → (vp_in ((14 : Int32) + x5) 1290 ∧ (((I 458 ((14 : Int32) + x5).toNatClampNeg) ≤ 0 → zE (d + 5) kX12_dusk 52 [some (.ref 420), none, some (.int x2), some (.int y3), some (.int x4), some (.int (x5 + 1))] [] Z I J o) ∧ (¬ (I 458 ((14 : Int32) + x5).toNatClampNeg) ≤ 0 → (∀ y4 : Int32, y4 = (x4 ||| ((1 : Int32) <<< (x5 &&& 31))) → zE (d + 5) kX12_dusk 52 [some (.ref 420), none, some (.int x2), some (.int y3), some (.int y4), some (.int (x5 + 1))] [] Z I J o))))))))))))))) : zE (d + 5) kX12_dusk 52 [some (.ref 420), none, some (.int x2), some (.int x3), some (.int x4), some (.int x5)] [] Z I J o := by
  refine ex_step (pc' := 54) dX12_dusk_52 rfl ?_
  refine ex_step (pc' := 55) dX12_dusk_54 rfl ?_
  refine ex_getr dX12_dusk_55 wf_RX12_49 (ly_a420 hL) rfl (ly_r420_24 hL) ?_
  refine ex_step (pc' := 59) dX12_dusk_58 rfl ?_
  refine ex_geti dX12_dusk_59 wf_RX12_258 (ly_a420 hL) rfl ?_
  obtain ⟨hv, h⟩ := h
  refine ex_iald dX12_dusk_62 (Or.inl (ly_a431 hL)) hv ?_
  refine ex_icmp (pc' := 127) dX12_dusk_63 (by decide) (fun c => ?_) (fun c => ?_)
  · have h := h.1 c
    refine ex_step (pc' := 128) dX12_dusk_127 rfl ?_
    refine ex_step (pc' := 129) (st' := [.int 2, .int x2]) dX12_dusk_128 rfl ?_
    refine ex_icmp (pc' := 136) dX12_dusk_129 (by decide) (fun c => ?_) (fun c => ?_)
    · have h := h.1 c
      refine ex_step (pc' := 138) dX12_dusk_136 rfl ?_
      rw [h]; exact ex_ret (v := some (.int x4)) ⟨dX12_dusk_138, _, rfl, rfl⟩
    · have h := h.2 (Classical.not_not.mp c)
      refine ex_step (pc' := 133) dX12_dusk_132 rfl ?_
      refine ex_step (pc' := 138) dX12_dusk_133 rfl ?_
      rw [h]; exact ex_ret (v := some (.int x3)) ⟨dX12_dusk_138, _, rfl, rfl⟩
  · have h := h.2 c
    refine ex_step (pc' := 67) dX12_dusk_66 rfl ?_
    refine ex_getr dX12_dusk_67 wf_RX12_131 (ly_a420 hL) rfl (ly_r420_56 hL) ?_
    refine ex_step (pc' := 72) (st' := [.int 21, .ref 458]) dX12_dusk_70 rfl ?_
    refine ex_step (pc' := 74) dX12_dusk_72 rfl ?_
    refine ex_step (pc' := 75) dX12_dusk_74 rfl ?_
    obtain ⟨hv, h⟩ := h
    refine ex_iald dX12_dusk_75 (Or.inl (ly_a458 hL)) hv ?_
    refine ex_if (pc' := 99) dX12_dusk_76 (by decide) (fun c => ?_) (fun c => ?_)
    · have h := h.1 c
      refine ex_step (pc' := 100) dX12_dusk_99 rfl ?_
      refine ex_getr dX12_dusk_100 wf_RX12_131 (ly_a420 hL) rfl (ly_r420_56 hL) ?_
      refine ex_step (pc' := 105) (st' := [.int 14, .ref 458]) dX12_dusk_103 rfl ?_
      refine ex_step (pc' := 107) dX12_dusk_105 rfl ?_
      refine ex_step (pc' := 108) dX12_dusk_107 rfl ?_
      obtain ⟨hv, h⟩ := h
      refine ex_iald dX12_dusk_108 (Or.inl (ly_a458 hL)) hv ?_
      refine ex_if (pc' := 121) dX12_dusk_109 (by decide) (fun c => ?_) (fun c => ?_)
      · have h := h.1 c
        refine ex_step (pc' := 124) (ls' := [some (.ref 420), none, some (.int x2), some (.int x3), some (.int x4), some (.int (x5 + 1))]) dX12_dusk_121 rfl ?_
        refine ex_step (pc' := 52) dX12_dusk_124 rfl ?_
        exact h
      · have h := h.2 c
        refine ex_step (pc' := 114) dX12_dusk_112 rfl ?_
        refine ex_step (pc' := 115) (st' := [.int 1, .int x4]) dX12_dusk_114 rfl ?_
        refine ex_step (pc' := 117) dX12_dusk_115 rfl ?_
        refine ex_step (pc' := 118) dX12_dusk_117 rfl ?_
        refine ex_step (pc' := 119) dX12_dusk_118 rfl ?_
        refine ex_topi (fun y1 ey1 => ?_)
        have h := h y1 ey1
        refine ex_step (pc' := 121) (ls' := [some (.ref 420), none, some (.int x2), some (.int x3), some (.int y1), some (.int x5)]) dX12_dusk_119 rfl ?_
        refine ex_step (pc' := 124) (ls' := [some (.ref 420), none, some (.int x2), some (.int x3), some (.int y1), some (.int (x5 + 1))]) dX12_dusk_121 rfl ?_
        refine ex_step (pc' := 52) dX12_dusk_124 rfl ?_
        exact h
    · have h := h.2 (Classical.not_not.mp c)
      refine ex_step (pc' := 80) dX12_dusk_79 rfl ?_
      refine ex_getr dX12_dusk_80 wf_RX12_131 (ly_a420 hL) rfl (ly_r420_56 hL) ?_
      refine ex_step (pc' := 85) (st' := [.int 14, .ref 458]) dX12_dusk_83 rfl ?_
      refine ex_step (pc' := 87) dX12_dusk_85 rfl ?_
      refine ex_step (pc' := 88) dX12_dusk_87 rfl ?_
      obtain ⟨hv, h⟩ := h
      refine ex_iald dX12_dusk_88 (Or.inl (ly_a458 hL)) hv ?_
      refine ex_if (pc' := 99) dX12_dusk_89 (by decide) (fun c => ?_) (fun c => ?_)
      · have h := h.1 c
        refine ex_step (pc' := 100) dX12_dusk_99 rfl ?_
        refine ex_getr dX12_dusk_100 wf_RX12_131 (ly_a420 hL) rfl (ly_r420_56 hL) ?_
        refine ex_step (pc' := 105) (st' := [.int 14, .ref 458]) dX12_dusk_103 rfl ?_
        refine ex_step (pc' := 107) dX12_dusk_105 rfl ?_
        refine ex_step (pc' := 108) dX12_dusk_107 rfl ?_
        obtain ⟨hv, h⟩ := h
        refine ex_iald dX12_dusk_108 (Or.inl (ly_a458 hL)) hv ?_
        refine ex_if (pc' := 121) dX12_dusk_109 (by decide) (fun c => ?_) (fun c => ?_)
        · have h := h.1 c
          refine ex_step (pc' := 124) (ls' := [some (.ref 420), none, some (.int x2), some (.int x3), some (.int x4), some (.int (x5 + 1))]) dX12_dusk_121 rfl ?_
          refine ex_step (pc' := 52) dX12_dusk_124 rfl ?_
          exact h
        · have h := h.2 c
          refine ex_step (pc' := 114) dX12_dusk_112 rfl ?_
          refine ex_step (pc' := 115) (st' := [.int 1, .int x4]) dX12_dusk_114 rfl ?_
          refine ex_step (pc' := 117) dX12_dusk_115 rfl ?_
          refine ex_step (pc' := 118) dX12_dusk_117 rfl ?_
          refine ex_step (pc' := 119) dX12_dusk_118 rfl ?_
          refine ex_topi (fun y2 ey2 => ?_)
          have h := h y2 ey2
          refine ex_step (pc' := 121) (ls' := [some (.ref 420), none, some (.int x2), some (.int x3), some (.int y2), some (.int x5)]) dX12_dusk_119 rfl ?_
          refine ex_step (pc' := 124) (ls' := [some (.ref 420), none, some (.int x2), some (.int x3), some (.int y2), some (.int (x5 + 1))]) dX12_dusk_121 rfl ?_
          refine ex_step (pc' := 52) dX12_dusk_124 rfl ?_
          exact h
      · have h := h.2 (Classical.not_not.mp c)
        refine ex_step (pc' := 93) dX12_dusk_92 rfl ?_
        refine ex_step (pc' := 94) (st' := [.int 1, .int x3]) dX12_dusk_93 rfl ?_
        refine ex_step (pc' := 96) dX12_dusk_94 rfl ?_
        refine ex_step (pc' := 97) dX12_dusk_96 rfl ?_
        refine ex_step (pc' := 98) dX12_dusk_97 rfl ?_
        refine ex_topi (fun y3 ey3 => ?_)
        have h := h y3 ey3
        refine ex_step (pc' := 99) (ls' := [some (.ref 420), none, some (.int x2), some (.int y3), some (.int x4), some (.int x5)]) dX12_dusk_98 rfl ?_
        refine ex_step (pc' := 100) dX12_dusk_99 rfl ?_
        refine ex_getr dX12_dusk_100 wf_RX12_131 (ly_a420 hL) rfl (ly_r420_56 hL) ?_
        refine ex_step (pc' := 105) (st' := [.int 14, .ref 458]) dX12_dusk_103 rfl ?_
        refine ex_step (pc' := 107) dX12_dusk_105 rfl ?_
        refine ex_step (pc' := 108) dX12_dusk_107 rfl ?_
        obtain ⟨hv, h⟩ := h
        refine ex_iald dX12_dusk_108 (Or.inl (ly_a458 hL)) hv ?_
        refine ex_if (pc' := 121) dX12_dusk_109 (by decide) (fun c => ?_) (fun c => ?_)
        · have h := h.1 c
          refine ex_step (pc' := 124) (ls' := [some (.ref 420), none, some (.int x2), some (.int y3), some (.int x4), some (.int (x5 + 1))]) dX12_dusk_121 rfl ?_
          refine ex_step (pc' := 52) dX12_dusk_124 rfl ?_
          exact h
        · have h := h.2 c
          refine ex_step (pc' := 114) dX12_dusk_112 rfl ?_
          refine ex_step (pc' := 115) (st' := [.int 1, .int x4]) dX12_dusk_114 rfl ?_
          refine ex_step (pc' := 117) dX12_dusk_115 rfl ?_
          refine ex_step (pc' := 118) dX12_dusk_117 rfl ?_
          refine ex_step (pc' := 119) dX12_dusk_118 rfl ?_
          refine ex_topi (fun y4 ey4 => ?_)
          have h := h y4 ey4
          refine ex_step (pc' := 121) (ls' := [some (.ref 420), none, some (.int x2), some (.int y3), some (.int y4), some (.int x5)]) dX12_dusk_119 rfl ?_
          refine ex_step (pc' := 124) (ls' := [some (.ref 420), none, some (.int x2), some (.int y3), some (.int y4), some (.int (x5 + 1))]) dX12_dusk_121 rfl ?_
          refine ex_step (pc' := 52) dX12_dusk_124 rfl ?_
          exact h
set_option maxHeartbeats 4000000 in
theorem BX12_bestDusk_0 {d : Nat} {Z : zZ} {I : zI} {J : zJ} {o : zO} {t u : Nat}  (hL : zLY Z t u)  (h : zE (d + 5) kX12_bestDusk 9 [some (.ref 420), some (.int 0), some (.int (-1)), some (.int 0), some (.int 0)] [] Z I J o) : zE (d + 5) kX12_bestDusk 0 [some (.ref 420), none, none, none, none] [] Z I J o := by
  refine ex_step (pc' := 1) (st' := [.int 0]) dX12_bestDusk_0 rfl ?_
  refine ex_step (pc' := 2) (ls' := [some (.ref 420), some (.int 0), none, none, none]) dX12_bestDusk_1 rfl ?_
  refine ex_step (pc' := 3) (st' := [.int (-1)]) dX12_bestDusk_2 rfl ?_
  refine ex_step (pc' := 4) (ls' := [some (.ref 420), some (.int 0), some (.int (-1)), none, none]) dX12_bestDusk_3 rfl ?_
  refine ex_step (pc' := 5) (st' := [.int 0]) dX12_bestDusk_4 rfl ?_
  refine ex_step (pc' := 6) (ls' := [some (.ref 420), some (.int 0), some (.int (-1)), some (.int 0), none]) dX12_bestDusk_5 rfl ?_
  refine ex_step (pc' := 7) (st' := [.int 0]) dX12_bestDusk_6 rfl ?_
  refine ex_step (pc' := 9) (ls' := [some (.ref 420), some (.int 0), some (.int (-1)), some (.int 0), some (.int 0)]) dX12_bestDusk_7 rfl ?_
  exact h
set_option maxHeartbeats 4000000 in
theorem BX12_bestDusk_9 {d : Nat} {Z : zZ} {I : zI} {J : zJ} {o : zO} {t u : Nat} (x1 : Int32) (x2 : Int32) (x3 : Int32) (x4 : Int32) (hL : zLY Z t u)  (h : ((5 ≤ x4 → o = (some (.int x1), Z, I, J)) ∧ (¬ 5 ≤ x4 → (∃ (I1 : zI), zE (d + 4) kX12_duskBy 0 [some (.ref 420), some (.int x4), none, none, none, none, none] [] Z I J (none, Z, I1, J) ∧ (((I1 420 65) < x2 → zE (d + 5) kX12_bestDusk 9 [some (.ref 420), some (.int x1), some (.int x2), some (.int x3), some (.int (x4 + 1))] [] Z I1 J o) ∧ (¬ (I1 420 65) < x2 → ((¬ (I1 420 65) = x2 → zE (d + 5) kX12_bestDusk 9 [some (.ref 420), some (.int x4), some (.int (I1 420 65)), some (.int (I1 420 64)), some (.int (x4 + 1))] [] Z I1 J o) ∧ ((I1 420 65) = x2 → (((I1 420 64) < x3 → zE (d + 5) kX12_bestDusk 9 [some (.ref 420), some (.int x4), some (.int (I1 420 65)), some (.int (I1 420 64)), some (.int (x4 + 1))] [] Z I1 J o) ∧ (¬ (I1 420 64) < x3 → zE (d + 5) kX12_bestDusk 9 [some (.ref 420), some (.int x1), some (.int x2), some (.int x3), some (.int (x4 + 1))] [] Z I1 J o)))))))))) : zE (d + 5) kX12_bestDusk 9 [some (.ref 420), some (.int x1), some (.int x2), some (.int x3), some (.int x4)] [] Z I J o := by
  refine ex_step (pc' := 11) dX12_bestDusk_9 rfl ?_
  refine ex_step (pc' := 12) (st' := [.int 5, .int x4]) dX12_bestDusk_11 rfl ?_
  refine ex_icmp (pc' := 67) dX12_bestDusk_12 (by decide) (fun c => ?_) (fun c => ?_)
  · have h := h.1 c
    refine ex_step (pc' := 68) dX12_bestDusk_67 rfl ?_
    rw [h]; exact ex_ret (v := some (.int x1)) ⟨dX12_bestDusk_68, _, rfl, rfl⟩
  · have h := h.2 c
    refine ex_step (pc' := 16) dX12_bestDusk_15 rfl ?_
    refine ex_step (pc' := 18) dX12_bestDusk_16 rfl ?_
    obtain ⟨I1, hc, h⟩ := h
    refine ex_callV (as := [.int x4]) (st := []) (ci := 12) dX12_bestDusk_18 zmX12_duskBy zl_RX12_461 ziX12_duskBy zvX12_duskBy (by decide) (ly_a420 hL) rfl (Nat.le_of_ble_eq_true rfl) (Nat.le_of_ble_eq_true rfl) hc ?_
    refine ex_step (pc' := 22) dX12_bestDusk_21 rfl ?_
    refine ex_geti dX12_bestDusk_22 wf_RX12_458 (ly_a420 hL) rfl ?_
    refine ex_step (pc' := 26) dX12_bestDusk_25 rfl ?_
    refine ex_icmp (pc' := 61) dX12_bestDusk_26 (by decide) (fun c => ?_) (fun c => ?_)
    · have h := h.1 c
      refine ex_step (pc' := 64) (ls' := [some (.ref 420), some (.int x1), some (.int x2), some (.int x3), some (.int (x4 + 1))]) dX12_bestDusk_61 rfl ?_
      refine ex_step (pc' := 9) dX12_bestDusk_64 rfl ?_
      exact h
    · have h := h.2 c
      refine ex_step (pc' := 30) dX12_bestDusk_29 rfl ?_
      refine ex_geti dX12_bestDusk_30 wf_RX12_458 (ly_a420 hL) rfl ?_
      refine ex_step (pc' := 34) dX12_bestDusk_33 rfl ?_
      refine ex_icmp (pc' := 48) dX12_bestDusk_34 (by decide) (fun c => ?_) (fun c => ?_)
      · have h := h.1 c
        refine ex_step (pc' := 50) dX12_bestDusk_48 rfl ?_
        refine ex_step (pc' := 51) (ls' := [some (.ref 420), some (.int x4), some (.int x2), some (.int x3), some (.int x4)]) dX12_bestDusk_50 rfl ?_
        refine ex_step (pc' := 52) dX12_bestDusk_51 rfl ?_
        refine ex_geti dX12_bestDusk_52 wf_RX12_458 (ly_a420 hL) rfl ?_
        refine ex_step (pc' := 56) (ls' := [some (.ref 420), some (.int x4), some (.int (I1 420 65)), some (.int x3), some (.int x4)]) dX12_bestDusk_55 rfl ?_
        refine ex_step (pc' := 57) dX12_bestDusk_56 rfl ?_
        refine ex_geti dX12_bestDusk_57 wf_RX12_455 (ly_a420 hL) rfl ?_
        refine ex_step (pc' := 61) (ls' := [some (.ref 420), some (.int x4), some (.int (I1 420 65)), some (.int (I1 420 64)), some (.int x4)]) dX12_bestDusk_60 rfl ?_
        refine ex_step (pc' := 64) (ls' := [some (.ref 420), some (.int x4), some (.int (I1 420 65)), some (.int (I1 420 64)), some (.int (x4 + 1))]) dX12_bestDusk_61 rfl ?_
        refine ex_step (pc' := 9) dX12_bestDusk_64 rfl ?_
        exact h
      · have h := h.2 (Classical.not_not.mp c)
        refine ex_step (pc' := 38) dX12_bestDusk_37 rfl ?_
        refine ex_geti dX12_bestDusk_38 wf_RX12_455 (ly_a420 hL) rfl ?_
        refine ex_step (pc' := 42) dX12_bestDusk_41 rfl ?_
        refine ex_icmp (pc' := 48) dX12_bestDusk_42 (by decide) (fun c => ?_) (fun c => ?_)
        · have h := h.1 c
          refine ex_step (pc' := 50) dX12_bestDusk_48 rfl ?_
          refine ex_step (pc' := 51) (ls' := [some (.ref 420), some (.int x4), some (.int x2), some (.int x3), some (.int x4)]) dX12_bestDusk_50 rfl ?_
          refine ex_step (pc' := 52) dX12_bestDusk_51 rfl ?_
          refine ex_geti dX12_bestDusk_52 wf_RX12_458 (ly_a420 hL) rfl ?_
          refine ex_step (pc' := 56) (ls' := [some (.ref 420), some (.int x4), some (.int (I1 420 65)), some (.int x3), some (.int x4)]) dX12_bestDusk_55 rfl ?_
          refine ex_step (pc' := 57) dX12_bestDusk_56 rfl ?_
          refine ex_geti dX12_bestDusk_57 wf_RX12_455 (ly_a420 hL) rfl ?_
          refine ex_step (pc' := 61) (ls' := [some (.ref 420), some (.int x4), some (.int (I1 420 65)), some (.int (I1 420 64)), some (.int x4)]) dX12_bestDusk_60 rfl ?_
          refine ex_step (pc' := 64) (ls' := [some (.ref 420), some (.int x4), some (.int (I1 420 65)), some (.int (I1 420 64)), some (.int (x4 + 1))]) dX12_bestDusk_61 rfl ?_
          refine ex_step (pc' := 9) dX12_bestDusk_64 rfl ?_
          exact h
        · have h := h.2 c
          refine ex_step (pc' := 61) dX12_bestDusk_45 rfl ?_
          refine ex_step (pc' := 64) (ls' := [some (.ref 420), some (.int x1), some (.int x2), some (.int x3), some (.int (x4 + 1))]) dX12_bestDusk_61 rfl ?_
          refine ex_step (pc' := 9) dX12_bestDusk_64 rfl ?_
          exact h
set_option maxHeartbeats 4000000 in
theorem BX12_knowsNow_0 {d : Nat} {Z : zZ} {I : zI} {J : zJ} {o : zO} {t u : Nat} (x1 : Int32) (hL : zLY Z t u)  (h : zE (d + 1) kX12_knowsNow 4 [some (.ref 420), some (.int x1), some (.int 0), some (.int 0)] [] Z I J o) : zE (d + 1) kX12_knowsNow 0 [some (.ref 420), some (.int x1), none, none] [] Z I J o := by
  refine ex_step (pc' := 1) (st' := [.int 0]) dX12_knowsNow_0 rfl ?_
  refine ex_step (pc' := 2) (ls' := [some (.ref 420), some (.int x1), some (.int 0), none]) dX12_knowsNow_1 rfl ?_
  refine ex_step (pc' := 3) (st' := [.int 0]) dX12_knowsNow_2 rfl ?_
  refine ex_step (pc' := 4) (ls' := [some (.ref 420), some (.int x1), some (.int 0), some (.int 0)]) dX12_knowsNow_3 rfl ?_
  exact h
set_option maxHeartbeats 4000000 in
theorem BX12_knowsNow_4 {d : Nat} {Z : zZ} {I : zI} {J : zJ} {o : zO} {t u : Nat} (x1 : Int32) (x2 : Int32) (x3 : Int32) (hL : zLY Z t u)  (h : (vp_in (I 420 18) 2 ∧ (((I 431 (I 420 18).toNatClampNeg) ≤ x3 → o = (some (.int x2), Z, I, J)) ∧ (¬ (I 431 (I 420 18).toNatClampNeg) ≤ x3 → ((x3 = x1 → zE (d + 1) kX12_knowsNow 4 [some (.ref 420), some (.int x1), some (.int x2), some (.int (x3 + 1))] [] Z I J o) ∧ (¬ x3 = x1 → (∃ (v1 : Int32), zE d kX12_overOf 0 [some (.ref 420), some (.int x1), some (.int x3), none, none, none, none, none] [] Z I J (some (.int v1), Z, I, J) ∧ ((0 < v1 → (∀ y2 : Int32, y2 = (x2 ||| ((1 : Int32) <<< (x3 &&& 31))) → zE (d + 1) kX12_knowsNow 4 [some (.ref 420), some (.int x1), some (.int y2), some (.int (x3 + 1))] [] Z I J o)) ∧ (¬ 0 < v1 → (∃ (v3 : Int32), zE d kX12_overOf 0 [some (.ref 420), some (.int x3), some (.int x1), none, none, none, none, none] [] Z I J (some (.int v3), Z, I, J) ∧ ((v3 ≤ 0 → zE (d + 1) kX12_knowsNow 4 [some (.ref 420), some (.int x1), some (.int x2), some (.int (x3 + 1))] [] Z I J o) ∧ (¬ v3 ≤ 0 → (∀ y4 : Int32, y4 = (x2 ||| ((1 : Int32) <<< (x3 &&& 31))) → zE (d + 1) kX12_knowsNow 4 [some (.ref 420), some (.int x1), some (.int y4), some (.int (x3 + 1))] [] Z I J o))))))))))))) : zE (d + 1) kX12_knowsNow 4 [some (.ref 420), some (.int x1), some (.int x2), some (.int x3)] [] Z I J o := by
  refine ex_step (pc' := 5) dX12_knowsNow_4 rfl ?_
  refine ex_step (pc' := 6) dX12_knowsNow_5 rfl ?_
  refine ex_getr dX12_knowsNow_6 wf_RX12_49 (ly_a420 hL) rfl (ly_r420_24 hL) ?_
  refine ex_step (pc' := 10) dX12_knowsNow_9 rfl ?_
  refine ex_geti dX12_knowsNow_10 wf_RX12_258 (ly_a420 hL) rfl ?_
  obtain ⟨hv, h⟩ := h
  refine ex_iald dX12_knowsNow_13 (Or.inl (ly_a431 hL)) hv ?_
  refine ex_icmp (pc' := 52) dX12_knowsNow_14 (by decide) (fun c => ?_) (fun c => ?_)
  · have h := h.1 c
    refine ex_step (pc' := 53) dX12_knowsNow_52 rfl ?_
    rw [h]; exact ex_ret (v := some (.int x2)) ⟨dX12_knowsNow_53, _, rfl, rfl⟩
  · have h := h.2 c
    refine ex_step (pc' := 18) dX12_knowsNow_17 rfl ?_
    refine ex_step (pc' := 19) dX12_knowsNow_18 rfl ?_
    refine ex_icmp (pc' := 46) dX12_knowsNow_19 (by decide) (fun c => ?_) (fun c => ?_)
    · have h := h.1 c
      refine ex_step (pc' := 49) (ls' := [some (.ref 420), some (.int x1), some (.int x2), some (.int (x3 + 1))]) dX12_knowsNow_46 rfl ?_
      refine ex_step (pc' := 4) dX12_knowsNow_49 rfl ?_
      exact h
    · have h := h.2 c
      refine ex_step (pc' := 23) dX12_knowsNow_22 rfl ?_
      refine ex_step (pc' := 24) dX12_knowsNow_23 rfl ?_
      refine ex_step (pc' := 25) dX12_knowsNow_24 rfl ?_
      obtain ⟨v1, hc, h⟩ := h
      refine ex_callV (as := [.int x1, .int x3]) (st := []) (ci := 12) dX12_knowsNow_25 zmX12_overOf zl_RX12_410 ziX12_overOf zvX12_overOf (by decide) (ly_a420 hL) rfl (Nat.le_of_ble_eq_true rfl) (Nat.le_of_ble_eq_true rfl) hc ?_
      refine ex_if (pc' := 40) dX12_knowsNow_28 (by decide) (fun c => ?_) (fun c => ?_)
      · have h := h.1 c
        refine ex_step (pc' := 41) dX12_knowsNow_40 rfl ?_
        refine ex_step (pc' := 42) (st' := [.int 1, .int x2]) dX12_knowsNow_41 rfl ?_
        refine ex_step (pc' := 43) dX12_knowsNow_42 rfl ?_
        refine ex_step (pc' := 44) dX12_knowsNow_43 rfl ?_
        refine ex_step (pc' := 45) dX12_knowsNow_44 rfl ?_
        refine ex_topi (fun y2 ey2 => ?_)
        have h := h y2 ey2
        refine ex_step (pc' := 46) (ls' := [some (.ref 420), some (.int x1), some (.int y2), some (.int x3)]) dX12_knowsNow_45 rfl ?_
        refine ex_step (pc' := 49) (ls' := [some (.ref 420), some (.int x1), some (.int y2), some (.int (x3 + 1))]) dX12_knowsNow_46 rfl ?_
        refine ex_step (pc' := 4) dX12_knowsNow_49 rfl ?_
        exact h
      · have h := h.2 c
        refine ex_step (pc' := 32) dX12_knowsNow_31 rfl ?_
        refine ex_step (pc' := 33) dX12_knowsNow_32 rfl ?_
        refine ex_step (pc' := 34) dX12_knowsNow_33 rfl ?_
        obtain ⟨v3, hc, h⟩ := h
        refine ex_callV (as := [.int x3, .int x1]) (st := []) (ci := 12) dX12_knowsNow_34 zmX12_overOf zl_RX12_410 ziX12_overOf zvX12_overOf (by decide) (ly_a420 hL) rfl (Nat.le_of_ble_eq_true rfl) (Nat.le_of_ble_eq_true rfl) hc ?_
        refine ex_if (pc' := 46) dX12_knowsNow_37 (by decide) (fun c => ?_) (fun c => ?_)
        · have h := h.1 c
          refine ex_step (pc' := 49) (ls' := [some (.ref 420), some (.int x1), some (.int x2), some (.int (x3 + 1))]) dX12_knowsNow_46 rfl ?_
          refine ex_step (pc' := 4) dX12_knowsNow_49 rfl ?_
          exact h
        · have h := h.2 c
          refine ex_step (pc' := 41) dX12_knowsNow_40 rfl ?_
          refine ex_step (pc' := 42) (st' := [.int 1, .int x2]) dX12_knowsNow_41 rfl ?_
          refine ex_step (pc' := 43) dX12_knowsNow_42 rfl ?_
          refine ex_step (pc' := 44) dX12_knowsNow_43 rfl ?_
          refine ex_step (pc' := 45) dX12_knowsNow_44 rfl ?_
          refine ex_topi (fun y4 ey4 => ?_)
          have h := h y4 ey4
          refine ex_step (pc' := 46) (ls' := [some (.ref 420), some (.int x1), some (.int y4), some (.int x3)]) dX12_knowsNow_45 rfl ?_
          refine ex_step (pc' := 49) (ls' := [some (.ref 420), some (.int x1), some (.int y4), some (.int (x3 + 1))]) dX12_knowsNow_46 rfl ?_
          refine ex_step (pc' := 4) dX12_knowsNow_49 rfl ?_
          exact h
set_option maxHeartbeats 4000000 in
theorem BX12_knows_0 {d : Nat} {Z : zZ} {I : zI} {J : zJ} {o : zO} {t u : Nat} (x1 : Int32) (hL : zLY Z t u)  (h : (∃ (v1 : Int32), zE (d + 1) kX12_isMan 0 [some (.ref 420), some (.int x1)] [] Z I J (some (.int v1), Z, I, J) ∧ ((¬ v1 = 0 → (∃ (I2 : zI), zE (d + 1) kX12_copies 0 [some (.ref 420), none] [] Z I J (none, Z, I2, J) ∧ (∃ (v3 : Int32), zE (d + 1) kX12_knowsNow 0 [some (.ref 420), some (.int x1), none, none] [] Z I2 J (some (.int v3), Z, I2, J) ∧ o = (some (.int v3), Z, I2, J)))) ∧ (v1 = 0 → o = (some (.int (-1)), Z, I, J))))) : zE (d + 2) kX12_knows 0 [some (.ref 420), some (.int x1)] [] Z I J o := by
  refine ex_step (pc' := 1) dX12_knows_0 rfl ?_
  refine ex_step (pc' := 2) dX12_knows_1 rfl ?_
  obtain ⟨v1, hc, h⟩ := h
  refine ex_callV (as := [.int x1]) (st := []) (ci := 12) dX12_knows_2 zmX12_isMan zl_RX12_394 ziX12_isMan zvX12_isMan (by decide) (ly_a420 hL) rfl (Nat.le_of_ble_eq_true rfl) (Nat.le_of_ble_eq_true rfl) hc ?_
  refine ex_if (pc' := 10) dX12_knows_5 (by decide) (fun c => ?_) (fun c => ?_)
  · have h := h.1 c
    refine ex_step (pc' := 11) dX12_knows_10 rfl ?_
    obtain ⟨I2, hc, h⟩ := h
    refine ex_callV (as := []) (st := []) (ci := 12) dX12_knows_11 zmX12_copies zl_RX12_397 ziX12_copies zvX12_copies (by decide) (ly_a420 hL) rfl (Nat.le_of_ble_eq_true rfl) (Nat.le_of_ble_eq_true rfl) hc ?_
    refine ex_step (pc' := 15) dX12_knows_14 rfl ?_
    refine ex_step (pc' := 16) dX12_knows_15 rfl ?_
    obtain ⟨v3, hc, h⟩ := h
    refine ex_callV (as := [.int x1]) (st := []) (ci := 12) dX12_knows_16 zmX12_knowsNow zl_RX12_464 ziX12_knowsNow zvX12_knowsNow (by decide) (ly_a420 hL) rfl (Nat.le_of_ble_eq_true rfl) (Nat.le_of_ble_eq_true rfl) hc ?_
    rw [h]; exact ex_ret (v := some (.int v3)) ⟨dX12_knows_19, _, rfl, rfl⟩
  · have h := h.2 (Classical.not_not.mp c)
    refine ex_step (pc' := 9) (st' := [.int (-1)]) dX12_knows_8 rfl ?_
    rw [h]; exact ex_ret (v := some (.int (-1))) ⟨dX12_knows_9, _, rfl, rfl⟩
set_option maxHeartbeats 4000000 in
theorem BX12_linkedTo_0 {d : Nat} {Z : zZ} {I : zI} {J : zJ} {o : zO} {t u : Nat} (x1 : Int32) (hL : zLY Z t u)  (h : zE (d + 2) kX12_linkedTo 4 [some (.ref 420), some (.int x1), some (.int x1), some (.int 0)] [] Z I J o) : zE (d + 2) kX12_linkedTo 0 [some (.ref 420), some (.int x1), none, none] [] Z I J o := by
  refine ex_step (pc' := 1) dX12_linkedTo_0 rfl ?_
  refine ex_step (pc' := 2) (ls' := [some (.ref 420), some (.int x1), some (.int x1), none]) dX12_linkedTo_1 rfl ?_
  refine ex_step (pc' := 3) (st' := [.int 0]) dX12_linkedTo_2 rfl ?_
  refine ex_step (pc' := 4) (ls' := [some (.ref 420), some (.int x1), some (.int x1), some (.int 0)]) dX12_linkedTo_3 rfl ?_
  exact h
set_option maxHeartbeats 4000000 in
theorem BX12_linkedTo_4 {d : Nat} {Z : zZ} {I : zI} {J : zJ} {o : zO} {t u : Nat} (x1 : Int32) (x2 : Int32) (x3 : Int32) (hL : zLY Z t u)  (h : (vp_in (I 420 18) 2 ∧ (((I 431 (I 420 18).toNatClampNeg) ≤ x3 → o = (some (.int x2), Z, I, J)) ∧ (¬ (I 431 (I 420 18).toNatClampNeg) ≤ x3 → ((¬ ((x1 >>> (x3 &&& 31)) &&& 1) = 1 → zE (d + 2) kX12_linkedTo 4 [some (.ref 420), some (.int x1), some (.int x2), some (.int (x3 + 1))] [] Z I J o) ∧ (((x1 >>> (x3 &&& 31)) &&& 1) = 1 → (∃ (v1 : Int32), zE (d + 1) kX12_knowsNow 0 [some (.ref 420), some (.int x3), none, none] [] Z I J (some (.int v1), Z, I, J) ∧ zE (d + 2) kX12_linkedTo 4 [some (.ref 420), some (.int x1), some (.int (x2 ||| v1)), some (.int (x3 + 1))] [] Z I J o))))))) : zE (d + 2) kX12_linkedTo 4 [some (.ref 420), some (.int x1), some (.int x2), some (.int x3)] [] Z I J o := by
  refine ex_step (pc' := 5) dX12_linkedTo_4 rfl ?_
  refine ex_step (pc' := 6) dX12_linkedTo_5 rfl ?_
  refine ex_getr dX12_linkedTo_6 wf_RX12_49 (ly_a420 hL) rfl (ly_r420_24 hL) ?_
  refine ex_step (pc' := 10) dX12_linkedTo_9 rfl ?_
  refine ex_geti dX12_linkedTo_10 wf_RX12_258 (ly_a420 hL) rfl ?_
  obtain ⟨hv, h⟩ := h
  refine ex_iald dX12_linkedTo_13 (Or.inl (ly_a431 hL)) hv ?_
  refine ex_icmp (pc' := 40) dX12_linkedTo_14 (by decide) (fun c => ?_) (fun c => ?_)
  · have h := h.1 c
    refine ex_step (pc' := 41) dX12_linkedTo_40 rfl ?_
    rw [h]; exact ex_ret (v := some (.int x2)) ⟨dX12_linkedTo_41, _, rfl, rfl⟩
  · have h := h.2 c
    refine ex_step (pc' := 18) dX12_linkedTo_17 rfl ?_
    refine ex_step (pc' := 19) dX12_linkedTo_18 rfl ?_
    refine ex_step (pc' := 20) dX12_linkedTo_19 rfl ?_
    refine ex_step (pc' := 21) (st' := [.int 1, .int (x1 >>> (x3 &&& 31))]) dX12_linkedTo_20 rfl ?_
    refine ex_step (pc' := 22) dX12_linkedTo_21 rfl ?_
    refine ex_step (pc' := 23) (st' := [.int 1, .int ((x1 >>> (x3 &&& 31)) &&& 1)]) dX12_linkedTo_22 rfl ?_
    refine ex_icmp (pc' := 34) dX12_linkedTo_23 (by decide) (fun c => ?_) (fun c => ?_)
    · have h := h.1 c
      refine ex_step (pc' := 37) (ls' := [some (.ref 420), some (.int x1), some (.int x2), some (.int (x3 + 1))]) dX12_linkedTo_34 rfl ?_
      refine ex_step (pc' := 4) dX12_linkedTo_37 rfl ?_
      exact h
    · have h := h.2 (Classical.not_not.mp c)
      refine ex_step (pc' := 27) dX12_linkedTo_26 rfl ?_
      refine ex_step (pc' := 28) dX12_linkedTo_27 rfl ?_
      refine ex_step (pc' := 29) dX12_linkedTo_28 rfl ?_
      obtain ⟨v1, hc, h⟩ := h
      refine ex_callV (as := [.int x3]) (st := [.int x2]) (ci := 12) dX12_linkedTo_29 zmX12_knowsNow zl_RX12_464 ziX12_knowsNow zvX12_knowsNow (by decide) (ly_a420 hL) rfl (Nat.le_of_ble_eq_true rfl) (Nat.le_of_ble_eq_true rfl) hc ?_
      refine ex_step (pc' := 33) dX12_linkedTo_32 rfl ?_
      refine ex_step (pc' := 34) (ls' := [some (.ref 420), some (.int x1), some (.int (x2 ||| v1)), some (.int x3)]) dX12_linkedTo_33 rfl ?_
      refine ex_step (pc' := 37) (ls' := [some (.ref 420), some (.int x1), some (.int (x2 ||| v1)), some (.int (x3 + 1))]) dX12_linkedTo_34 rfl ?_
      refine ex_step (pc' := 4) dX12_linkedTo_37 rfl ?_
      exact h
set_option maxHeartbeats 4000000 in
theorem BX12_links_0 {d : Nat} {Z : zZ} {I : zI} {J : zJ} {o : zO} {t u : Nat} (x1 : Int32) (x2 : Int32) (hL : zLY Z t u)  (h : (∃ (v1 : Int32), zE (d + 2) kX12_areTwo 0 [some (.ref 420), some (.int x1), some (.int x2)] [] Z I J (some (.int v1), Z, I, J) ∧ ((¬ v1 = 0 → (∃ (I2 : zI), zE (d + 2) kX12_copies 0 [some (.ref 420), none] [] Z I J (none, Z, I2, J) ∧ (∀ y3 : Int32, y3 = ((1 : Int32) <<< (x1 &&& 31)) → zE (d + 3) kX12_links 22 [some (.ref 420), none, some (.int x2), some (.int y3), some (.int 1)] [] Z I2 J o))) ∧ (v1 = 0 → o = (some (.int (-1)), Z, I, J))))) : zE (d + 3) kX12_links 0 [some (.ref 420), some (.int x1), some (.int x2), none, none] [] Z I J o := by
  refine ex_step (pc' := 1) dX12_links_0 rfl ?_
  refine ex_step (pc' := 2) dX12_links_1 rfl ?_
  refine ex_step (pc' := 3) dX12_links_2 rfl ?_
  obtain ⟨v1, hc, h⟩ := h
  refine ex_callV (as := [.int x1, .int x2]) (st := []) (ci := 12) dX12_links_3 zmX12_areTwo zl_RX12_413 ziX12_areTwo zvX12_areTwo (by decide) (ly_a420 hL) rfl (Nat.le_of_ble_eq_true rfl) (Nat.le_of_ble_eq_true rfl) hc ?_
  refine ex_if (pc' := 11) dX12_links_6 (by decide) (fun c => ?_) (fun c => ?_)
  · have h := h.1 c
    refine ex_step (pc' := 12) dX12_links_11 rfl ?_
    obtain ⟨I2, hc, h⟩ := h
    refine ex_callV (as := []) (st := []) (ci := 12) dX12_links_12 zmX12_copies zl_RX12_397 ziX12_copies zvX12_copies (by decide) (ly_a420 hL) rfl (Nat.le_of_ble_eq_true rfl) (Nat.le_of_ble_eq_true rfl) hc ?_
    refine ex_step (pc' := 16) (st' := [.int 1]) dX12_links_15 rfl ?_
    refine ex_step (pc' := 17) dX12_links_16 rfl ?_
    refine ex_step (pc' := 18) dX12_links_17 rfl ?_
    refine ex_topi (fun y3 ey3 => ?_)
    have h := h y3 ey3
    refine ex_step (pc' := 19) (ls' := [some (.ref 420), some (.int x1), some (.int x2), some (.int y3), none]) dX12_links_18 rfl ?_
    refine ex_step (pc' := 20) (st' := [.int 1]) dX12_links_19 rfl ?_
    refine ex_step (pc' := 22) (ls' := [some (.ref 420), some (.int x1), some (.int x2), some (.int y3), some (.int 1)]) dX12_links_20 rfl ?_
    exact ex_less (ls' := [some (.ref 420), none, some (.int x2), some (.int y3), some (.int 1)]) ⟨rfl, ⟨rfl, ⟨rfl, ⟨rfl, trivial⟩⟩⟩⟩ h
  · have h := h.2 (Classical.not_not.mp c)
    refine ex_step (pc' := 10) (st' := [.int (-1)]) dX12_links_9 rfl ?_
    rw [h]; exact ex_ret (v := some (.int (-1))) ⟨dX12_links_10, _, rfl, rfl⟩
set_option maxHeartbeats 4000000 in
theorem BX12_links_22 {d : Nat} {Z : zZ} {I : zI} {J : zJ} {o : zO} {t u : Nat} (x2 : Int32) (x3 : Int32) (x4 : Int32) (hL : zLY Z t u)  (h : ((7 ≤ x4 → o = (some (.int (-2)), Z, I, J)) ∧ (¬ 7 ≤ x4 → (∃ (v1 : Int32), zE (d + 2) kX12_linkedTo 0 [some (.ref 420), some (.int x3), none, none] [] Z I J (some (.int v1), Z, I, J) ∧ ((¬ ((v1 >>> (x2 &&& 31)) &&& 1) = 1 → zE (d + 3) kX12_links 22 [some (.ref 420), none, some (.int x2), some (.int v1), some (.int (x4 + 1))] [] Z I J o) ∧ (((v1 >>> (x2 &&& 31)) &&& 1) = 1 → o = (some (.int x4), Z, I, J))))))) : zE (d + 3) kX12_links 22 [some (.ref 420), none, some (.int x2), some (.int x3), some (.int x4)] [] Z I J o := by
  refine ex_step (pc' := 24) dX12_links_22 rfl ?_
  refine ex_step (pc' := 26) (st' := [.int 7, .int x4]) dX12_links_24 rfl ?_
  refine ex_icmp (pc' := 53) dX12_links_26 (by decide) (fun c => ?_) (fun c => ?_)
  · have h := h.1 c
    refine ex_step (pc' := 55) (st' := [.int (-2)]) dX12_links_53 rfl ?_
    rw [h]; exact ex_ret (v := some (.int (-2))) ⟨dX12_links_55, _, rfl, rfl⟩
  · have h := h.2 c
    refine ex_step (pc' := 30) dX12_links_29 rfl ?_
    refine ex_step (pc' := 31) dX12_links_30 rfl ?_
    obtain ⟨v1, hc, h⟩ := h
    refine ex_callV (as := [.int x3]) (st := []) (ci := 12) dX12_links_31 zmX12_linkedTo zl_RX12_467 ziX12_linkedTo zvX12_linkedTo (by decide) (ly_a420 hL) rfl (Nat.le_of_ble_eq_true rfl) (Nat.le_of_ble_eq_true rfl) hc ?_
    refine ex_step (pc' := 35) (ls' := [some (.ref 420), none, some (.int x2), some (.int v1), some (.int x4)]) dX12_links_34 rfl ?_
    refine ex_step (pc' := 36) dX12_links_35 rfl ?_
    refine ex_step (pc' := 37) dX12_links_36 rfl ?_
    refine ex_step (pc' := 38) dX12_links_37 rfl ?_
    refine ex_step (pc' := 39) (st' := [.int 1, .int (v1 >>> (x2 &&& 31))]) dX12_links_38 rfl ?_
    refine ex_step (pc' := 40) dX12_links_39 rfl ?_
    refine ex_step (pc' := 41) (st' := [.int 1, .int ((v1 >>> (x2 &&& 31)) &&& 1)]) dX12_links_40 rfl ?_
    refine ex_icmp (pc' := 47) dX12_links_41 (by decide) (fun c => ?_) (fun c => ?_)
    · have h := h.1 c
      refine ex_step (pc' := 50) (ls' := [some (.ref 420), none, some (.int x2), some (.int v1), some (.int (x4 + 1))]) dX12_links_47 rfl ?_
      refine ex_step (pc' := 22) dX12_links_50 rfl ?_
      exact h
    · have h := h.2 (Classical.not_not.mp c)
      refine ex_step (pc' := 46) dX12_links_44 rfl ?_
      rw [h]; exact ex_ret (v := some (.int x4)) ⟨dX12_links_46, _, rfl, rfl⟩
set_option maxHeartbeats 4000000 in
theorem BX12_rounds_0 {d : Nat} {Z : zZ} {I : zI} {J : zJ} {o : zO} {t u : Nat}  (hL : zLY Z t u)  (h : (∃ (I1 : zI), zE (d + 2) kX12_copies 0 [some (.ref 420), none] [] Z I J (none, Z, I1, J) ∧ (∃ (v2 : Int32) (I3 : zI), zE (d + 2) kX12_fillsWaits 0 [some (.ref 420), none, none, none] [] Z I1 J (some (.int v2), Z, I3, J) ∧ zE (d + 3) kX12_rounds 11 [some (.ref 420), some (.int v2), some (.int 0), none, none] [] Z I3 J o))) : zE (d + 3) kX12_rounds 0 [some (.ref 420), none, none, none, none] [] Z I J o := by
  refine ex_step (pc' := 1) dX12_rounds_0 rfl ?_
  obtain ⟨I1, hc, h⟩ := h
  refine ex_callV (as := []) (st := []) (ci := 12) dX12_rounds_1 zmX12_copies zl_RX12_397 ziX12_copies zvX12_copies (by decide) (ly_a420 hL) rfl (Nat.le_of_ble_eq_true rfl) (Nat.le_of_ble_eq_true rfl) hc ?_
  refine ex_step (pc' := 5) dX12_rounds_4 rfl ?_
  obtain ⟨v2, I3, hc, h⟩ := h
  refine ex_callV (as := []) (st := []) (ci := 12) dX12_rounds_5 zmX12_fillsWaits zl_RX12_416 ziX12_fillsWaits zvX12_fillsWaits (by decide) (ly_a420 hL) rfl (Nat.le_of_ble_eq_true rfl) (Nat.le_of_ble_eq_true rfl) hc ?_
  refine ex_step (pc' := 9) (ls' := [some (.ref 420), some (.int v2), none, none, none]) dX12_rounds_8 rfl ?_
  refine ex_step (pc' := 10) (st' := [.int 0]) dX12_rounds_9 rfl ?_
  refine ex_step (pc' := 11) (ls' := [some (.ref 420), some (.int v2), some (.int 0), none, none]) dX12_rounds_10 rfl ?_
  exact h
set_option maxHeartbeats 4000000 in
theorem BX12_rounds_11 {d : Nat} {Z : zZ} {I : zI} {J : zJ} {o : zO} {t u : Nat} (x1 : Int32) (x2 : Int32) (hL : zLY Z t u)  (h : ((x1 = 0 → o = (some (.int x2), Z, I, J)) ∧ (¬ x1 = 0 → zE (d + 3) kX12_rounds 23 [some (.ref 420), some (.int x1), some (.int x2), some (.int (x1 &&& (0 - x1))), some (.int 0)] [] Z I J o))) : zE (d + 3) kX12_rounds 11 [some (.ref 420), some (.int x1), some (.int x2), none, none] [] Z I J o := by
  refine ex_step (pc' := 12) dX12_rounds_11 rfl ?_
  refine ex_if (pc' := 54) dX12_rounds_12 (by decide) (fun c => ?_) (fun c => ?_)
  · have h := h.1 c
    refine ex_step (pc' := 55) dX12_rounds_54 rfl ?_
    rw [h]; exact ex_ret (v := some (.int x2)) ⟨dX12_rounds_55, _, rfl, rfl⟩
  · have h := h.2 c
    refine ex_step (pc' := 16) dX12_rounds_15 rfl ?_
    refine ex_step (pc' := 17) dX12_rounds_16 rfl ?_
    refine ex_step (pc' := 18) dX12_rounds_17 rfl ?_
    refine ex_step (pc' := 19) dX12_rounds_18 rfl ?_
    refine ex_step (pc' := 20) (ls' := [some (.ref 420), some (.int x1), some (.int x2), some (.int (x1 &&& (0 - x1))), none]) dX12_rounds_19 rfl ?_
    refine ex_step (pc' := 21) (st' := [.int 0]) dX12_rounds_20 rfl ?_
    refine ex_step (pc' := 23) (ls' := [some (.ref 420), some (.int x1), some (.int x2), some (.int (x1 &&& (0 - x1))), some (.int 0)]) dX12_rounds_21 rfl ?_
    exact h
set_option maxHeartbeats 4000000 in
theorem BX12_rounds_23 {d : Nat} {Z : zZ} {I : zI} {J : zJ} {o : zO} {t u : Nat} (x1 : Int32) (x2 : Int32) (x3 : Int32) (x4 : Int32) (hL : zLY Z t u)  (h : ((7 ≤ x4 → zE (d + 3) kX12_rounds 11 [some (.ref 420), some (.int (x1 &&& (x3 ^^^ (-1)))), some (.int (x2 + 1)), none, none] [] Z I J o) ∧ (¬ 7 ≤ x4 → (∃ (v1 : Int32), zE (d + 2) kX12_linkedTo 0 [some (.ref 420), some (.int x3), none, none] [] Z I J (some (.int v1), Z, I, J) ∧ zE (d + 3) kX12_rounds 23 [some (.ref 420), some (.int x1), some (.int x2), some (.int v1), some (.int (x4 + 1))] [] Z I J o)))) : zE (d + 3) kX12_rounds 23 [some (.ref 420), some (.int x1), some (.int x2), some (.int x3), some (.int x4)] [] Z I J o := by
  refine ex_step (pc' := 25) dX12_rounds_23 rfl ?_
  refine ex_step (pc' := 27) (st' := [.int 7, .int x4]) dX12_rounds_25 rfl ?_
  refine ex_icmp (pc' := 42) dX12_rounds_27 (by decide) (fun c => ?_) (fun c => ?_)
  · have h := h.1 c
    refine ex_step (pc' := 43) dX12_rounds_42 rfl ?_
    refine ex_step (pc' := 44) dX12_rounds_43 rfl ?_
    refine ex_step (pc' := 45) (st' := [.int (-1), .int x3, .int x1]) dX12_rounds_44 rfl ?_
    refine ex_step (pc' := 46) dX12_rounds_45 rfl ?_
    refine ex_step (pc' := 47) dX12_rounds_46 rfl ?_
    refine ex_step (pc' := 48) (ls' := [some (.ref 420), some (.int (x1 &&& (x3 ^^^ (-1)))), some (.int x2), some (.int x3), some (.int x4)]) dX12_rounds_47 rfl ?_
    refine ex_step (pc' := 51) (ls' := [some (.ref 420), some (.int (x1 &&& (x3 ^^^ (-1)))), some (.int (x2 + 1)), some (.int x3), some (.int x4)]) dX12_rounds_48 rfl ?_
    refine ex_step (pc' := 11) dX12_rounds_51 rfl ?_
    exact ex_less (ls' := [some (.ref 420), some (.int (x1 &&& (x3 ^^^ (-1)))), some (.int (x2 + 1)), none, none]) ⟨rfl, ⟨rfl, ⟨rfl, trivial⟩⟩⟩ h
  · have h := h.2 c
    refine ex_step (pc' := 31) dX12_rounds_30 rfl ?_
    refine ex_step (pc' := 32) dX12_rounds_31 rfl ?_
    obtain ⟨v1, hc, h⟩ := h
    refine ex_callV (as := [.int x3]) (st := []) (ci := 12) dX12_rounds_32 zmX12_linkedTo zl_RX12_467 ziX12_linkedTo zvX12_linkedTo (by decide) (ly_a420 hL) rfl (Nat.le_of_ble_eq_true rfl) (Nat.le_of_ble_eq_true rfl) hc ?_
    refine ex_step (pc' := 36) (ls' := [some (.ref 420), some (.int x1), some (.int x2), some (.int v1), some (.int x4)]) dX12_rounds_35 rfl ?_
    refine ex_step (pc' := 39) (ls' := [some (.ref 420), some (.int x1), some (.int x2), some (.int v1), some (.int (x4 + 1))]) dX12_rounds_36 rfl ?_
    refine ex_step (pc' := 23) dX12_rounds_39 rfl ?_
    exact h
set_option maxHeartbeats 4000000 in
theorem BX12_comesTo_0 {d : Nat} {Z : zZ} {I : zI} {J : zJ} {o : zO} {t u : Nat} (x1 : Int32) (x2 : Int32) (x3 : Int32) (hL : zLY Z t u)  (h : (vp_in (((7 : Int32) * (I 420 18)) + x1) 14 ∧ (∀ y1 : Int32, y1 = (I 432 (((7 : Int32) * (I 420 18)) + x1).toNatClampNeg) → (vp_in (((7 : Int32) * (I 420 18)) + x1) 14 ∧ (∀ y2 : Int32, y2 = (I 433 (((7 : Int32) * (I 420 18)) + x1).toNatClampNeg) → (vp_in ((14 : Int32) + x1) 1290 ∧ (((I 458 ((14 : Int32) + x1).toNatClampNeg) ≤ 0 → zE (d + 1) kX12_comesTo 61 [some (.ref 420), some (.int x1), some (.int x2), some (.int x3), some (.int y1), some (.int y2), some (.int 0)] [] Z I J o) ∧ (¬ (I 458 ((14 : Int32) + x1).toNatClampNeg) ≤ 0 → ((¬ y1 = x2 → zE (d + 1) kX12_comesTo 61 [some (.ref 420), some (.int x1), some (.int x2), some (.int x3), some (.int y1), some (.int y2), some (.int 0)] [] Z I J o) ∧ (y1 = x2 → ((¬ y2 = x3 → zE (d + 1) kX12_comesTo 61 [some (.ref 420), some (.int x1), some (.int x2), some (.int x3), some (.int y1), some (.int y2), some (.int 0)] [] Z I J o) ∧ (y2 = x3 → o = (some (.int 1), Z, I, J))))))))))))) : zE (d + 1) kX12_comesTo 0 [some (.ref 420), some (.int x1), some (.int x2), some (.int x3), none, none, none] [] Z I J o := by
  refine ex_step (pc' := 1) dX12_comesTo_0 rfl ?_
  refine ex_getr dX12_comesTo_1 wf_RX12_52 (ly_a420 hL) rfl (ly_r420_25 hL) ?_
  refine ex_step (pc' := 6) (st' := [.int 7, .ref 432]) dX12_comesTo_4 rfl ?_
  refine ex_step (pc' := 7) dX12_comesTo_6 rfl ?_
  refine ex_geti dX12_comesTo_7 wf_RX12_258 (ly_a420 hL) rfl ?_
  refine ex_step (pc' := 11) dX12_comesTo_10 rfl ?_
  refine ex_step (pc' := 12) dX12_comesTo_11 rfl ?_
  refine ex_step (pc' := 13) dX12_comesTo_12 rfl ?_
  obtain ⟨hv, h⟩ := h
  refine ex_iald dX12_comesTo_13 (Or.inl (ly_a432 hL)) hv ?_
  refine ex_topi (fun y1 ey1 => ?_)
  have h := h y1 ey1
  refine ex_step (pc' := 16) (ls' := [some (.ref 420), some (.int x1), some (.int x2), some (.int x3), some (.int y1), none, none]) dX12_comesTo_14 rfl ?_
  refine ex_step (pc' := 17) dX12_comesTo_16 rfl ?_
  refine ex_getr dX12_comesTo_17 wf_RX12_55 (ly_a420 hL) rfl (ly_r420_26 hL) ?_
  refine ex_step (pc' := 22) (st' := [.int 7, .ref 433]) dX12_comesTo_20 rfl ?_
  refine ex_step (pc' := 23) dX12_comesTo_22 rfl ?_
  refine ex_geti dX12_comesTo_23 wf_RX12_258 (ly_a420 hL) rfl ?_
  refine ex_step (pc' := 27) dX12_comesTo_26 rfl ?_
  refine ex_step (pc' := 28) dX12_comesTo_27 rfl ?_
  refine ex_step (pc' := 29) dX12_comesTo_28 rfl ?_
  obtain ⟨hv, h⟩ := h
  refine ex_iald dX12_comesTo_29 (Or.inl (ly_a433 hL)) hv ?_
  refine ex_topi (fun y2 ey2 => ?_)
  have h := h y2 ey2
  refine ex_step (pc' := 32) (ls' := [some (.ref 420), some (.int x1), some (.int x2), some (.int x3), some (.int y1), some (.int y2), none]) dX12_comesTo_30 rfl ?_
  refine ex_step (pc' := 33) dX12_comesTo_32 rfl ?_
  refine ex_getr dX12_comesTo_33 wf_RX12_131 (ly_a420 hL) rfl (ly_r420_56 hL) ?_
  refine ex_step (pc' := 38) (st' := [.int 14, .ref 458]) dX12_comesTo_36 rfl ?_
  refine ex_step (pc' := 39) dX12_comesTo_38 rfl ?_
  refine ex_step (pc' := 40) dX12_comesTo_39 rfl ?_
  obtain ⟨hv, h⟩ := h
  refine ex_iald dX12_comesTo_40 (Or.inl (ly_a458 hL)) hv ?_
  refine ex_if (pc' := 58) dX12_comesTo_41 (by decide) (fun c => ?_) (fun c => ?_)
  · have h := h.1 c
    refine ex_step (pc' := 59) (st' := [.int 0]) dX12_comesTo_58 rfl ?_
    refine ex_step (pc' := 61) (ls' := [some (.ref 420), some (.int x1), some (.int x2), some (.int x3), some (.int y1), some (.int y2), some (.int 0)]) dX12_comesTo_59 rfl ?_
    exact h
  · have h := h.2 c
    refine ex_step (pc' := 46) dX12_comesTo_44 rfl ?_
    refine ex_step (pc' := 47) dX12_comesTo_46 rfl ?_
    refine ex_icmp (pc' := 58) dX12_comesTo_47 (by decide) (fun c => ?_) (fun c => ?_)
    · have h := h.1 c
      refine ex_step (pc' := 59) (st' := [.int 0]) dX12_comesTo_58 rfl ?_
      refine ex_step (pc' := 61) (ls' := [some (.ref 420), some (.int x1), some (.int x2), some (.int x3), some (.int y1), some (.int y2), some (.int 0)]) dX12_comesTo_59 rfl ?_
      exact h
    · have h := h.2 (Classical.not_not.mp c)
      refine ex_step (pc' := 52) dX12_comesTo_50 rfl ?_
      refine ex_step (pc' := 53) dX12_comesTo_52 rfl ?_
      refine ex_icmp (pc' := 58) dX12_comesTo_53 (by decide) (fun c => ?_) (fun c => ?_)
      · have h := h.1 c
        refine ex_step (pc' := 59) (st' := [.int 0]) dX12_comesTo_58 rfl ?_
        refine ex_step (pc' := 61) (ls' := [some (.ref 420), some (.int x1), some (.int x2), some (.int x3), some (.int y1), some (.int y2), some (.int 0)]) dX12_comesTo_59 rfl ?_
        exact h
      · have h := h.2 (Classical.not_not.mp c)
        refine ex_step (pc' := 57) (st' := [.int 1]) dX12_comesTo_56 rfl ?_
        rw [h]; exact ex_ret (v := some (.int 1)) ⟨dX12_comesTo_57, _, rfl, rfl⟩
set_option maxHeartbeats 4000000 in
theorem BX12_comesTo_61 {d : Nat} {Z : zZ} {I : zI} {J : zJ} {o : zO} {t u : Nat} (x1 : Int32) (x2 : Int32) (x3 : Int32) (x4 : Int32) (x5 : Int32) (x6 : Int32) (hL : zLY Z t u)  (h : (vp_in ((14 : Int32) + x1) 1290 ∧ (((I 458 ((14 : Int32) + x1).toNatClampNeg) ≤ x6 → o = (some (.int 0), Z, I, J)) ∧ (¬ (I 458 ((14 : Int32) + x1).toNatClampNeg) ≤ x6 → (vp_in (((30 : Int32) + ((60 : Int32) * x1)) + x6) 1290 ∧ (∀ y1 : Int32, y1 = (x4 + (zdx (I 458 (((30 : Int32) + ((60 : Int32) * x1)) + x6).toNatClampNeg))) → (vp_in (((30 : Int32) + ((60 : Int32) * x1)) + x6) 1290 ∧ (∀ y2 : Int32, y2 = (x5 + (zdy (I 458 (((30 : Int32) + ((60 : Int32) * x1)) + x6).toNatClampNeg))) → ((¬ y1 = x2 → zE (d + 1) kX12_comesTo 61 [some (.ref 420), some (.int x1), some (.int x2), some (.int x3), some (.int y1), some (.int y2), some (.int (x6 + 1))] [] Z I J o) ∧ (y1 = x2 → ((¬ y2 = x3 → zE (d + 1) kX12_comesTo 61 [some (.ref 420), some (.int x1), some (.int x2), some (.int x3), some (.int y1), some (.int y2), some (.int (x6 + 1))] [] Z I J o) ∧ (y2 = x3 → o = (some (.int 1), Z, I, J))))))))))))) : zE (d + 1) kX12_comesTo 61 [some (.ref 420), some (.int x1), some (.int x2), some (.int x3), some (.int x4), some (.int x5), some (.int x6)] [] Z I J o := by
  refine ex_step (pc' := 63) dX12_comesTo_61 rfl ?_
  refine ex_step (pc' := 64) dX12_comesTo_63 rfl ?_
  refine ex_getr dX12_comesTo_64 wf_RX12_131 (ly_a420 hL) rfl (ly_r420_56 hL) ?_
  refine ex_step (pc' := 69) (st' := [.int 14, .ref 458, .int x6]) dX12_comesTo_67 rfl ?_
  refine ex_step (pc' := 70) dX12_comesTo_69 rfl ?_
  refine ex_step (pc' := 71) dX12_comesTo_70 rfl ?_
  obtain ⟨hv, h⟩ := h
  refine ex_iald dX12_comesTo_71 (Or.inl (ly_a458 hL)) hv ?_
  refine ex_icmp (pc' := 141) dX12_comesTo_72 (by decide) (fun c => ?_) (fun c => ?_)
  · have h := h.1 c
    refine ex_step (pc' := 142) (st' := [.int 0]) dX12_comesTo_141 rfl ?_
    rw [h]; exact ex_ret (v := some (.int 0)) ⟨dX12_comesTo_142, _, rfl, rfl⟩
  · have h := h.2 c
    refine ex_step (pc' := 77) dX12_comesTo_75 rfl ?_
    refine ex_step (pc' := 78) dX12_comesTo_77 rfl ?_
    refine ex_getr dX12_comesTo_78 wf_RX12_131 (ly_a420 hL) rfl (ly_r420_56 hL) ?_
    refine ex_step (pc' := 83) (st' := [.int 30, .ref 458, .int x4]) dX12_comesTo_81 rfl ?_
    refine ex_step (pc' := 85) (st' := [.int 60, .int 30, .ref 458, .int x4]) dX12_comesTo_83 rfl ?_
    refine ex_step (pc' := 86) dX12_comesTo_85 rfl ?_
    refine ex_step (pc' := 87) dX12_comesTo_86 rfl ?_
    refine ex_step (pc' := 88) dX12_comesTo_87 rfl ?_
    refine ex_step (pc' := 90) dX12_comesTo_88 rfl ?_
    refine ex_step (pc' := 91) dX12_comesTo_90 rfl ?_
    obtain ⟨hv, h⟩ := h
    refine ex_iald dX12_comesTo_91 (Or.inl (ly_a458 hL)) hv ?_
    refine ex_callS (as := [.int (I 458 (((30 : Int32) + ((60 : Int32) * x1)) + x6).toNatClampNeg)]) (st := [.int x4]) dX12_comesTo_92 zmX12_dx zl_RX12_368 zsX12_dx rfl (Nat.le_of_ble_eq_true rfl) (Nat.le_of_ble_eq_true rfl) M_dx ?_
    refine ex_step (pc' := 96) dX12_comesTo_95 rfl ?_
    refine ex_topi (fun y1 ey1 => ?_)
    have h := h y1 ey1
    refine ex_step (pc' := 98) (ls' := [some (.ref 420), some (.int x1), some (.int x2), some (.int x3), some (.int y1), some (.int x5), some (.int x6)]) dX12_comesTo_96 rfl ?_
    refine ex_step (pc' := 100) dX12_comesTo_98 rfl ?_
    refine ex_step (pc' := 101) dX12_comesTo_100 rfl ?_
    refine ex_getr dX12_comesTo_101 wf_RX12_131 (ly_a420 hL) rfl (ly_r420_56 hL) ?_
    refine ex_step (pc' := 106) (st' := [.int 30, .ref 458, .int x5]) dX12_comesTo_104 rfl ?_
    refine ex_step (pc' := 108) (st' := [.int 60, .int 30, .ref 458, .int x5]) dX12_comesTo_106 rfl ?_
    refine ex_step (pc' := 109) dX12_comesTo_108 rfl ?_
    refine ex_step (pc' := 110) dX12_comesTo_109 rfl ?_
    refine ex_step (pc' := 111) dX12_comesTo_110 rfl ?_
    refine ex_step (pc' := 113) dX12_comesTo_111 rfl ?_
    refine ex_step (pc' := 114) dX12_comesTo_113 rfl ?_
    obtain ⟨hv, h⟩ := h
    refine ex_iald dX12_comesTo_114 (Or.inl (ly_a458 hL)) hv ?_
    refine ex_callS (as := [.int (I 458 (((30 : Int32) + ((60 : Int32) * x1)) + x6).toNatClampNeg)]) (st := [.int x5]) dX12_comesTo_115 zmX12_dy zl_RX12_371 zsX12_dy rfl (Nat.le_of_ble_eq_true rfl) (Nat.le_of_ble_eq_true rfl) M_dy ?_
    refine ex_step (pc' := 119) dX12_comesTo_118 rfl ?_
    refine ex_topi (fun y2 ey2 => ?_)
    have h := h y2 ey2
    refine ex_step (pc' := 121) (ls' := [some (.ref 420), some (.int x1), some (.int x2), some (.int x3), some (.int y1), some (.int y2), some (.int x6)]) dX12_comesTo_119 rfl ?_
    refine ex_step (pc' := 123) dX12_comesTo_121 rfl ?_
    refine ex_step (pc' := 124) dX12_comesTo_123 rfl ?_
    refine ex_icmp (pc' := 135) dX12_comesTo_124 (by decide) (fun c => ?_) (fun c => ?_)
    · have h := h.1 c
      refine ex_step (pc' := 138) (ls' := [some (.ref 420), some (.int x1), some (.int x2), some (.int x3), some (.int y1), some (.int y2), some (.int (x6 + 1))]) dX12_comesTo_135 rfl ?_
      refine ex_step (pc' := 61) dX12_comesTo_138 rfl ?_
      exact h
    · have h := h.2 (Classical.not_not.mp c)
      refine ex_step (pc' := 129) dX12_comesTo_127 rfl ?_
      refine ex_step (pc' := 130) dX12_comesTo_129 rfl ?_
      refine ex_icmp (pc' := 135) dX12_comesTo_130 (by decide) (fun c => ?_) (fun c => ?_)
      · have h := h.1 c
        refine ex_step (pc' := 138) (ls' := [some (.ref 420), some (.int x1), some (.int x2), some (.int x3), some (.int y1), some (.int y2), some (.int (x6 + 1))]) dX12_comesTo_135 rfl ?_
        refine ex_step (pc' := 61) dX12_comesTo_138 rfl ?_
        exact h
      · have h := h.2 (Classical.not_not.mp c)
        refine ex_step (pc' := 134) (st' := [.int 1]) dX12_comesTo_133 rfl ?_
        rw [h]; exact ex_ret (v := some (.int 1)) ⟨dX12_comesTo_134, _, rfl, rfl⟩
set_option maxHeartbeats 4000000 in
theorem BX12_crowd_0 {d : Nat} {Z : zZ} {I : zI} {J : zJ} {o : zO} {t u : Nat} (x1 : Int32) (hL : zLY Z t u)  (h : ((¬ (zbi (0 ≤ x1 ∧ x1 ≤ 1)) = 0 → (∃ (I1 : zI), zE (d + 1) kX12_copies 0 [some (.ref 420), none] [] Z I J (none, Z, I1, J) ∧ zE (d + 2) kX12_crowd 23 [some (.ref 420), some (.int x1), some (.int (-2)), some (.int 0), some (.int 0), none, none, none] [] Z I1 J o)) ∧ ((zbi (0 ≤ x1 ∧ x1 ≤ 1)) = 0 → o = (some (.int (-1)), Z, I, J)))) : zE (d + 2) kX12_crowd 0 [some (.ref 420), some (.int x1), none, none, none, none, none, none] [] Z I J o := by
  refine ex_step (pc' := 1) dX12_crowd_0 rfl ?_
  refine ex_step (pc' := 2) (st' := [.int 0, .int x1]) dX12_crowd_1 rfl ?_
  refine ex_step (pc' := 3) (st' := [.int 1, .int 0, .int x1]) dX12_crowd_2 rfl ?_
  refine ex_callS (as := [.int x1, .int 0, .int 1]) (st := []) dX12_crowd_3 zmX12_in zl_RX12_345 zsX12_in rfl (Nat.le_of_ble_eq_true rfl) (Nat.le_of_ble_eq_true rfl) M_in ?_
  refine ex_if (pc' := 11) dX12_crowd_6 (by decide) (fun c => ?_) (fun c => ?_)
  · have h := h.1 c
    refine ex_step (pc' := 12) dX12_crowd_11 rfl ?_
    obtain ⟨I1, hc, h⟩ := h
    refine ex_callV (as := []) (st := []) (ci := 12) dX12_crowd_12 zmX12_copies zl_RX12_397 ziX12_copies zvX12_copies (by decide) (ly_a420 hL) rfl (Nat.le_of_ble_eq_true rfl) (Nat.le_of_ble_eq_true rfl) hc ?_
    refine ex_step (pc' := 17) (st' := [.int (-2)]) dX12_crowd_15 rfl ?_
    refine ex_step (pc' := 18) (ls' := [some (.ref 420), some (.int x1), some (.int (-2)), none, none, none, none, none]) dX12_crowd_17 rfl ?_
    refine ex_step (pc' := 19) (st' := [.int 0]) dX12_crowd_18 rfl ?_
    refine ex_step (pc' := 20) (ls' := [some (.ref 420), some (.int x1), some (.int (-2)), some (.int 0), none, none, none, none]) dX12_crowd_19 rfl ?_
    refine ex_step (pc' := 21) (st' := [.int 0]) dX12_crowd_20 rfl ?_
    refine ex_step (pc' := 23) (ls' := [some (.ref 420), some (.int x1), some (.int (-2)), some (.int 0), some (.int 0), none, none, none]) dX12_crowd_21 rfl ?_
    exact h
  · have h := h.2 (Classical.not_not.mp c)
    refine ex_step (pc' := 10) (st' := [.int (-1)]) dX12_crowd_9 rfl ?_
    rw [h]; exact ex_ret (v := some (.int (-1))) ⟨dX12_crowd_10, _, rfl, rfl⟩
set_option maxHeartbeats 4000000 in
theorem BX12_crowd_23 {d : Nat} {Z : zZ} {I : zI} {J : zJ} {o : zO} {t u : Nat} (x1 : Int32) (x2 : Int32) (x3 : Int32) (x4 : Int32) (hL : zLY Z t u)  (h : (vp_in (I 420 18) 2 ∧ (((I 430 (I 420 18).toNatClampNeg) ≤ x4 → ((x2 < 0 → o = (some (.int x2), Z, I, J)) ∧ (¬ x2 < 0 → ((¬ x1 = 0 → o = (some (.int x3), Z, I, J)) ∧ (x1 = 0 → o = (some (.int x2), Z, I, J)))))) ∧ (¬ (I 430 (I 420 18).toNatClampNeg) ≤ x4 → zE (d + 2) kX12_crowd 40 [some (.ref 420), some (.int x1), some (.int x2), some (.int x3), some (.int x4), some (.int 0), none, none] [] Z I J o)))) : zE (d + 2) kX12_crowd 23 [some (.ref 420), some (.int x1), some (.int x2), some (.int x3), some (.int x4), none, none, none] [] Z I J o := by
  refine ex_step (pc' := 25) dX12_crowd_23 rfl ?_
  refine ex_step (pc' := 26) dX12_crowd_25 rfl ?_
  refine ex_getr dX12_crowd_26 wf_RX12_46 (ly_a420 hL) rfl (ly_r420_23 hL) ?_
  refine ex_step (pc' := 30) dX12_crowd_29 rfl ?_
  refine ex_geti dX12_crowd_30 wf_RX12_258 (ly_a420 hL) rfl ?_
  obtain ⟨hv, h⟩ := h
  refine ex_iald dX12_crowd_33 (Or.inl (ly_a430 hL)) hv ?_
  refine ex_icmp (pc' := 129) dX12_crowd_34 (by decide) (fun c => ?_) (fun c => ?_)
  · have h := h.1 c
    refine ex_step (pc' := 130) dX12_crowd_129 rfl ?_
    refine ex_if (pc' := 137) dX12_crowd_130 (by decide) (fun c => ?_) (fun c => ?_)
    · have h := h.1 c
      refine ex_step (pc' := 138) dX12_crowd_137 rfl ?_
      refine ex_step (pc' := 142) dX12_crowd_138 rfl ?_
      rw [h]; exact ex_ret (v := some (.int x2)) ⟨dX12_crowd_142, _, rfl, rfl⟩
    · have h := h.2 c
      refine ex_step (pc' := 134) dX12_crowd_133 rfl ?_
      refine ex_if (pc' := 141) dX12_crowd_134 (by decide) (fun c => ?_) (fun c => ?_)
      · have h := h.1 c
        refine ex_step (pc' := 142) dX12_crowd_141 rfl ?_
        rw [h]; exact ex_ret (v := some (.int x3)) ⟨dX12_crowd_142, _, rfl, rfl⟩
      · have h := h.2 (Classical.not_not.mp c)
        refine ex_step (pc' := 138) dX12_crowd_137 rfl ?_
        refine ex_step (pc' := 142) dX12_crowd_138 rfl ?_
        rw [h]; exact ex_ret (v := some (.int x2)) ⟨dX12_crowd_142, _, rfl, rfl⟩
  · have h := h.2 c
    refine ex_step (pc' := 38) (st' := [.int 0]) dX12_crowd_37 rfl ?_
    refine ex_step (pc' := 40) (ls' := [some (.ref 420), some (.int x1), some (.int x2), some (.int x3), some (.int x4), some (.int 0), none, none]) dX12_crowd_38 rfl ?_
    exact h
set_option maxHeartbeats 4000000 in
theorem BX12_crowd_40 {d : Nat} {Z : zZ} {I : zI} {J : zJ} {o : zO} {t u : Nat} (x1 : Int32) (x2 : Int32) (x3 : Int32) (x4 : Int32) (x5 : Int32) (hL : zLY Z t u)  (h : (vp_in (I 420 18) 2 ∧ (((I 429 (I 420 18).toNatClampNeg) ≤ x5 → zE (d + 2) kX12_crowd 23 [some (.ref 420), some (.int x1), some (.int x2), some (.int x3), some (.int (x4 + 1)), none, none, none] [] Z I J o) ∧ (¬ (I 429 (I 420 18).toNatClampNeg) ≤ x5 → zE (d + 2) kX12_crowd 60 [some (.ref 420), some (.int x1), some (.int x2), some (.int x3), some (.int x4), some (.int x5), some (.int 0), some (.int 0)] [] Z I J o)))) : zE (d + 2) kX12_crowd 40 [some (.ref 420), some (.int x1), some (.int x2), some (.int x3), some (.int x4), some (.int x5), none, none] [] Z I J o := by
  refine ex_step (pc' := 42) dX12_crowd_40 rfl ?_
  refine ex_step (pc' := 43) dX12_crowd_42 rfl ?_
  refine ex_getr dX12_crowd_43 wf_RX12_43 (ly_a420 hL) rfl (ly_r420_22 hL) ?_
  refine ex_step (pc' := 47) dX12_crowd_46 rfl ?_
  refine ex_geti dX12_crowd_47 wf_RX12_258 (ly_a420 hL) rfl ?_
  obtain ⟨hv, h⟩ := h
  refine ex_iald dX12_crowd_50 (Or.inl (ly_a429 hL)) hv ?_
  refine ex_icmp (pc' := 123) dX12_crowd_51 (by decide) (fun c => ?_) (fun c => ?_)
  · have h := h.1 c
    refine ex_step (pc' := 126) (ls' := [some (.ref 420), some (.int x1), some (.int x2), some (.int x3), some (.int (x4 + 1)), some (.int x5), none, none]) dX12_crowd_123 rfl ?_
    refine ex_step (pc' := 23) dX12_crowd_126 rfl ?_
    exact ex_less (ls' := [some (.ref 420), some (.int x1), some (.int x2), some (.int x3), some (.int (x4 + 1)), none, none, none]) ⟨rfl, ⟨rfl, ⟨rfl, ⟨rfl, ⟨rfl, trivial⟩⟩⟩⟩⟩ h
  · have h := h.2 c
    refine ex_step (pc' := 55) (st' := [.int 0]) dX12_crowd_54 rfl ?_
    refine ex_step (pc' := 57) (ls' := [some (.ref 420), some (.int x1), some (.int x2), some (.int x3), some (.int x4), some (.int x5), some (.int 0), none]) dX12_crowd_55 rfl ?_
    refine ex_step (pc' := 58) (st' := [.int 0]) dX12_crowd_57 rfl ?_
    refine ex_step (pc' := 60) (ls' := [some (.ref 420), some (.int x1), some (.int x2), some (.int x3), some (.int x4), some (.int x5), some (.int 0), some (.int 0)]) dX12_crowd_58 rfl ?_
    exact h
set_option maxHeartbeats 4000000 in
theorem BX12_crowd_60 {d : Nat} {Z : zZ} {I : zI} {J : zJ} {o : zO} {t u : Nat} (x1 : Int32) (x2 : Int32) (x3 : Int32) (x4 : Int32) (x5 : Int32) (x6 : Int32) (x7 : Int32) (hL : zLY Z t u)  (h : (vp_in (I 420 18) 2 ∧ (((I 431 (I 420 18).toNatClampNeg) ≤ x7 → ((x3 < x6 → (∀ y1 : Int32, y1 = (((100 : Int32) * x4) + x5) → zE (d + 2) kX12_crowd 40 [some (.ref 420), some (.int x1), some (.int y1), some (.int x6), some (.int x4), some (.int (x5 + 1)), none, none] [] Z I J o)) ∧ (¬ x3 < x6 → zE (d + 2) kX12_crowd 40 [some (.ref 420), some (.int x1), some (.int x2), some (.int x3), some (.int x4), some (.int (x5 + 1)), none, none] [] Z I J o))) ∧ (¬ (I 431 (I 420 18).toNatClampNeg) ≤ x7 → (∃ (v2 : Int32), zE (d + 1) kX12_comesTo 0 [some (.ref 420), some (.int x7), some (.int x5), some (.int x4), none, none, none] [] Z I J (some (.int v2), Z, I, J) ∧ ((v2 = 0 → zE (d + 2) kX12_crowd 60 [some (.ref 420), some (.int x1), some (.int x2), some (.int x3), some (.int x4), some (.int x5), some (.int x6), some (.int (x7 + 1))] [] Z I J o) ∧ (¬ v2 = 0 → zE (d + 2) kX12_crowd 60 [some (.ref 420), some (.int x1), some (.int x2), some (.int x3), some (.int x4), some (.int x5), some (.int (x6 + 1)), some (.int (x7 + 1))] [] Z I J o))))))) : zE (d + 2) kX12_crowd 60 [some (.ref 420), some (.int x1), some (.int x2), some (.int x3), some (.int x4), some (.int x5), some (.int x6), some (.int x7)] [] Z I J o := by
  refine ex_step (pc' := 62) dX12_crowd_60 rfl ?_
  refine ex_step (pc' := 63) dX12_crowd_62 rfl ?_
  refine ex_getr dX12_crowd_63 wf_RX12_49 (ly_a420 hL) rfl (ly_r420_24 hL) ?_
  refine ex_step (pc' := 67) dX12_crowd_66 rfl ?_
  refine ex_geti dX12_crowd_67 wf_RX12_258 (ly_a420 hL) rfl ?_
  obtain ⟨hv, h⟩ := h
  refine ex_iald dX12_crowd_70 (Or.inl (ly_a431 hL)) hv ?_
  refine ex_icmp (pc' := 96) dX12_crowd_71 (by decide) (fun c => ?_) (fun c => ?_)
  · have h := h.1 c
    refine ex_step (pc' := 98) dX12_crowd_96 rfl ?_
    refine ex_step (pc' := 99) dX12_crowd_98 rfl ?_
    refine ex_icmp (pc' := 105) dX12_crowd_99 (by decide) (fun c => ?_) (fun c => ?_)
    · have h := h.1 c
      refine ex_step (pc' := 107) (st' := [.int 100]) dX12_crowd_105 rfl ?_
      refine ex_step (pc' := 109) dX12_crowd_107 rfl ?_
      refine ex_step (pc' := 110) dX12_crowd_109 rfl ?_
      refine ex_step (pc' := 112) dX12_crowd_110 rfl ?_
      refine ex_step (pc' := 113) dX12_crowd_112 rfl ?_
      refine ex_topi (fun y1 ey1 => ?_)
      have h := h y1 ey1
      refine ex_step (pc' := 114) (ls' := [some (.ref 420), some (.int x1), some (.int y1), some (.int x3), some (.int x4), some (.int x5), some (.int x6), some (.int x7)]) dX12_crowd_113 rfl ?_
      refine ex_step (pc' := 116) dX12_crowd_114 rfl ?_
      refine ex_step (pc' := 117) (ls' := [some (.ref 420), some (.int x1), some (.int y1), some (.int x6), some (.int x4), some (.int x5), some (.int x6), some (.int x7)]) dX12_crowd_116 rfl ?_
      refine ex_step (pc' := 120) (ls' := [some (.ref 420), some (.int x1), some (.int y1), some (.int x6), some (.int x4), some (.int (x5 + 1)), some (.int x6), some (.int x7)]) dX12_crowd_117 rfl ?_
      refine ex_step (pc' := 40) dX12_crowd_120 rfl ?_
      exact ex_less (ls' := [some (.ref 420), some (.int x1), some (.int y1), some (.int x6), some (.int x4), some (.int (x5 + 1)), none, none]) ⟨rfl, ⟨rfl, ⟨rfl, ⟨rfl, ⟨rfl, ⟨rfl, trivial⟩⟩⟩⟩⟩⟩ h
    · have h := h.2 c
      refine ex_step (pc' := 117) dX12_crowd_102 rfl ?_
      refine ex_step (pc' := 120) (ls' := [some (.ref 420), some (.int x1), some (.int x2), some (.int x3), some (.int x4), some (.int (x5 + 1)), some (.int x6), some (.int x7)]) dX12_crowd_117 rfl ?_
      refine ex_step (pc' := 40) dX12_crowd_120 rfl ?_
      exact ex_less (ls' := [some (.ref 420), some (.int x1), some (.int x2), some (.int x3), some (.int x4), some (.int (x5 + 1)), none, none]) ⟨rfl, ⟨rfl, ⟨rfl, ⟨rfl, ⟨rfl, ⟨rfl, trivial⟩⟩⟩⟩⟩⟩ h
  · have h := h.2 c
    refine ex_step (pc' := 75) dX12_crowd_74 rfl ?_
    refine ex_step (pc' := 77) dX12_crowd_75 rfl ?_
    refine ex_step (pc' := 79) dX12_crowd_77 rfl ?_
    refine ex_step (pc' := 81) dX12_crowd_79 rfl ?_
    obtain ⟨v2, hc, h⟩ := h
    refine ex_callV (as := [.int x7, .int x5, .int x4]) (st := []) (ci := 12) dX12_crowd_81 zmX12_comesTo zl_RX12_470 ziX12_comesTo zvX12_comesTo (by decide) (ly_a420 hL) rfl (Nat.le_of_ble_eq_true rfl) (Nat.le_of_ble_eq_true rfl) hc ?_
    refine ex_if (pc' := 90) dX12_crowd_84 (by decide) (fun c => ?_) (fun c => ?_)
    · have h := h.1 c
      refine ex_step (pc' := 93) (ls' := [some (.ref 420), some (.int x1), some (.int x2), some (.int x3), some (.int x4), some (.int x5), some (.int x6), some (.int (x7 + 1))]) dX12_crowd_90 rfl ?_
      refine ex_step (pc' := 60) dX12_crowd_93 rfl ?_
      exact h
    · have h := h.2 c
      refine ex_step (pc' := 90) (ls' := [some (.ref 420), some (.int x1), some (.int x2), some (.int x3), some (.int x4), some (.int x5), some (.int (x6 + 1)), some (.int x7)]) dX12_crowd_87 rfl ?_
      refine ex_step (pc' := 93) (ls' := [some (.ref 420), some (.int x1), some (.int x2), some (.int x3), some (.int x4), some (.int x5), some (.int (x6 + 1)), some (.int (x7 + 1))]) dX12_crowd_90 rfl ?_
      refine ex_step (pc' := 60) dX12_crowd_93 rfl ?_
      exact h
set_option maxHeartbeats 4000000 in
theorem BX12_walks_0 {d : Nat} {Z : zZ} {I : zI} {J : zJ} {o : zO} {t u : Nat} (x1 : Int32) (x2 : Int32) (hL : zLY Z t u)  (h : (∀ y1 : Int32, y1 = ((288 : Int32) * (((2 : Int32) * x1) + x2)) → zE (d + 3) kX12_walks 13 [some (.ref 420), some (.int x1), some (.int x2), some (.int y1), some (.int 0), none, none, none, none, none, none] [] Z I J o)) : zE (d + 3) kX12_walks 0 [some (.ref 420), some (.int x1), some (.int x2), none, none, none, none, none, none, none, none] [] Z I J o := by
  refine ex_step (pc' := 3) (st' := [.int 288]) dX12_walks_0 rfl ?_
  refine ex_step (pc' := 4) (st' := [.int 2, .int 288]) dX12_walks_3 rfl ?_
  refine ex_step (pc' := 5) dX12_walks_4 rfl ?_
  refine ex_step (pc' := 6) dX12_walks_5 rfl ?_
  refine ex_step (pc' := 7) dX12_walks_6 rfl ?_
  refine ex_step (pc' := 8) dX12_walks_7 rfl ?_
  refine ex_step (pc' := 9) dX12_walks_8 rfl ?_
  refine ex_topi (fun y1 ey1 => ?_)
  have h := h y1 ey1
  refine ex_step (pc' := 10) (ls' := [some (.ref 420), some (.int x1), some (.int x2), some (.int y1), none, none, none, none, none, none, none]) dX12_walks_9 rfl ?_
  refine ex_step (pc' := 11) (st' := [.int 0]) dX12_walks_10 rfl ?_
  refine ex_step (pc' := 13) (ls' := [some (.ref 420), some (.int x1), some (.int x2), some (.int y1), some (.int 0), none, none, none, none, none, none]) dX12_walks_11 rfl ?_
  exact h
set_option maxHeartbeats 4000000 in
theorem BX12_walks_13 {d : Nat} {Z : zZ} {I : zI} {J : zJ} {o : zO} {t u : Nat} (x1 : Int32) (x2 : Int32) (x3 : Int32) (x4 : Int32) (hL : zLY Z t u)  (h : ((288 ≤ x4 → (∃ (v1 : Int32) (I2 : zI), zE (d + 2) kX12_wayOf 0 [some (.ref 420), some (.int x1)] [] Z I J (some (.int v1), Z, I2, J) ∧ (vp_in (((7 : Int32) * (I2 420 18)) + x1) 14 ∧ (∀ y3 : Int32, y3 = (I2 432 (((7 : Int32) * (I2 420 18)) + x1).toNatClampNeg) → (vp_in (((7 : Int32) * (I2 420 18)) + x1) 14 ∧ (∀ y4 : Int32, y4 = (I2 433 (((7 : Int32) * (I2 420 18)) + x1).toNatClampNeg) → zE (d + 3) kX12_walks 78 [some (.ref 420), some (.int x1), some (.int x2), some (.int x3), some (.int y3), some (.int y4), some (.int 0), none, none, none, none] [] Z I2 J o)))))) ∧ (¬ 288 ≤ x4 → (vp_in (x3 + x4) 4032 ∧ (∀ I5 : zI, I5 = zu I 466 (x3 + x4).toNatClampNeg 0 → zE (d + 3) kX12_walks 13 [some (.ref 420), some (.int x1), some (.int x2), some (.int x3), some (.int (x4 + 1)), none, none, none, none, none, none] [] Z I5 J o))))) : zE (d + 3) kX12_walks 13 [some (.ref 420), some (.int x1), some (.int x2), some (.int x3), some (.int x4), none, none, none, none, none, none] [] Z I J o := by
  refine ex_step (pc' := 15) dX12_walks_13 rfl ?_
  refine ex_step (pc' := 18) (st' := [.int 288, .int x4]) dX12_walks_15 rfl ?_
  refine ex_icmp (pc' := 37) dX12_walks_18 (by decide) (fun c => ?_) (fun c => ?_)
  · have h := h.1 c
    refine ex_step (pc' := 38) dX12_walks_37 rfl ?_
    refine ex_step (pc' := 39) dX12_walks_38 rfl ?_
    obtain ⟨v1, I2, hc, h⟩ := h
    refine ex_callV (as := [.int x1]) (st := []) (ci := 12) dX12_walks_39 zmX12_wayOf zl_RX12_434 ziX12_wayOf zvX12_wayOf (by decide) (ly_a420 hL) rfl (Nat.le_of_ble_eq_true rfl) (Nat.le_of_ble_eq_true rfl) hc ?_
    refine ex_step (pc' := 43) dX12_walks_42 rfl ?_
    refine ex_step (pc' := 44) dX12_walks_43 rfl ?_
    refine ex_getr dX12_walks_44 wf_RX12_52 (ly_a420 hL) rfl (ly_r420_25 hL) ?_
    refine ex_step (pc' := 49) (st' := [.int 7, .ref 432]) dX12_walks_47 rfl ?_
    refine ex_step (pc' := 50) dX12_walks_49 rfl ?_
    refine ex_geti dX12_walks_50 wf_RX12_258 (ly_a420 hL) rfl ?_
    refine ex_step (pc' := 54) dX12_walks_53 rfl ?_
    refine ex_step (pc' := 55) dX12_walks_54 rfl ?_
    refine ex_step (pc' := 56) dX12_walks_55 rfl ?_
    obtain ⟨hv, h⟩ := h
    refine ex_iald dX12_walks_56 (Or.inl (ly_a432 hL)) hv ?_
    refine ex_topi (fun y3 ey3 => ?_)
    have h := h y3 ey3
    refine ex_step (pc' := 59) (ls' := [some (.ref 420), some (.int x1), some (.int x2), some (.int x3), some (.int y3), none, none, none, none, none, none]) dX12_walks_57 rfl ?_
    refine ex_step (pc' := 60) dX12_walks_59 rfl ?_
    refine ex_getr dX12_walks_60 wf_RX12_55 (ly_a420 hL) rfl (ly_r420_26 hL) ?_
    refine ex_step (pc' := 65) (st' := [.int 7, .ref 433]) dX12_walks_63 rfl ?_
    refine ex_step (pc' := 66) dX12_walks_65 rfl ?_
    refine ex_geti dX12_walks_66 wf_RX12_258 (ly_a420 hL) rfl ?_
    refine ex_step (pc' := 70) dX12_walks_69 rfl ?_
    refine ex_step (pc' := 71) dX12_walks_70 rfl ?_
    refine ex_step (pc' := 72) dX12_walks_71 rfl ?_
    obtain ⟨hv, h⟩ := h
    refine ex_iald dX12_walks_72 (Or.inl (ly_a433 hL)) hv ?_
    refine ex_topi (fun y4 ey4 => ?_)
    have h := h y4 ey4
    refine ex_step (pc' := 75) (ls' := [some (.ref 420), some (.int x1), some (.int x2), some (.int x3), some (.int y3), some (.int y4), none, none, none, none, none]) dX12_walks_73 rfl ?_
    refine ex_step (pc' := 76) (st' := [.int 0]) dX12_walks_75 rfl ?_
    refine ex_step (pc' := 78) (ls' := [some (.ref 420), some (.int x1), some (.int x2), some (.int x3), some (.int y3), some (.int y4), some (.int 0), none, none, none, none]) dX12_walks_76 rfl ?_
    exact h
  · have h := h.2 c
    refine ex_step (pc' := 22) dX12_walks_21 rfl ?_
    refine ex_getr dX12_walks_22 wf_RX12_156 (ly_a420 hL) rfl (ly_r420_67 hL) ?_
    refine ex_step (pc' := 26) dX12_walks_25 rfl ?_
    refine ex_step (pc' := 28) dX12_walks_26 rfl ?_
    refine ex_step (pc' := 29) dX12_walks_28 rfl ?_
    refine ex_step (pc' := 30) (st' := [.int 0, .int (x3 + x4), .ref 466]) dX12_walks_29 rfl ?_
    obtain ⟨hv, h⟩ := h
    refine ex_iastN dX12_walks_30 (ly_a466 hL) hv (fun I5 eI5 => ?_)
    have h := h I5 eI5
    refine ex_step (pc' := 34) (ls' := [some (.ref 420), some (.int x1), some (.int x2), some (.int x3), some (.int (x4 + 1)), none, none, none, none, none, none]) dX12_walks_31 rfl ?_
    refine ex_step (pc' := 13) dX12_walks_34 rfl ?_
    exact h
set_option maxHeartbeats 4000000 in
theorem BX12_walks_78 {d : Nat} {Z : zZ} {I : zI} {J : zJ} {o : zO} {t u : Nat} (x1 : Int32) (x2 : Int32) (x3 : Int32) (x4 : Int32) (x5 : Int32) (x6 : Int32) (hL : zLY Z t u)  (h : (vp_in (((7 : Int32) * (I 420 18)) + x1) 14 ∧ (((I 435 (((7 : Int32) * (I 420 18)) + x1).toNatClampNeg) ≤ x6 → o = (none, Z, I, J)) ∧ (¬ (I 435 (((7 : Int32) * (I 420 18)) + x1).toNatClampNeg) ≤ x6 → (vp_in x6 6 ∧ (∀ y1 : Int32, y1 = ((((42 : Int32) * (I 420 18)) + ((6 : Int32) * x1)) + (I 464 x6.toNatClampNeg)) → zE (d + 3) kX12_walks 122 [some (.ref 420), some (.int x1), some (.int x2), some (.int x3), some (.int x4), some (.int x5), some (.int x6), some (.int y1), some (.int 0), none, none] [] Z I J o)))))) : zE (d + 3) kX12_walks 78 [some (.ref 420), some (.int x1), some (.int x2), some (.int x3), some (.int x4), some (.int x5), some (.int x6), none, none, none, none] [] Z I J o := by
  refine ex_step (pc' := 80) dX12_walks_78 rfl ?_
  refine ex_step (pc' := 81) dX12_walks_80 rfl ?_
  refine ex_getr dX12_walks_81 wf_RX12_61 (ly_a420 hL) rfl (ly_r420_28 hL) ?_
  refine ex_step (pc' := 86) (st' := [.int 7, .ref 435, .int x6]) dX12_walks_84 rfl ?_
  refine ex_step (pc' := 87) dX12_walks_86 rfl ?_
  refine ex_geti dX12_walks_87 wf_RX12_258 (ly_a420 hL) rfl ?_
  refine ex_step (pc' := 91) dX12_walks_90 rfl ?_
  refine ex_step (pc' := 92) dX12_walks_91 rfl ?_
  refine ex_step (pc' := 93) dX12_walks_92 rfl ?_
  obtain ⟨hv, h⟩ := h
  refine ex_iald dX12_walks_93 (Or.inl (ly_a435 hL)) hv ?_
  refine ex_icmp (pc' := 272) dX12_walks_94 (by decide) (fun c => ?_) (fun c => ?_)
  · have h := h.1 c
    rw [h]; exact ex_ret (v := none) ⟨dX12_walks_272, rfl⟩
  · have h := h.2 c
    refine ex_step (pc' := 99) (st' := [.int 42]) dX12_walks_97 rfl ?_
    refine ex_step (pc' := 100) dX12_walks_99 rfl ?_
    refine ex_geti dX12_walks_100 wf_RX12_258 (ly_a420 hL) rfl ?_
    refine ex_step (pc' := 104) dX12_walks_103 rfl ?_
    refine ex_step (pc' := 106) (st' := [.int 6, .int ((42 : Int32) * (I 420 18))]) dX12_walks_104 rfl ?_
    refine ex_step (pc' := 107) dX12_walks_106 rfl ?_
    refine ex_step (pc' := 108) dX12_walks_107 rfl ?_
    refine ex_step (pc' := 109) dX12_walks_108 rfl ?_
    refine ex_step (pc' := 110) dX12_walks_109 rfl ?_
    refine ex_getr dX12_walks_110 wf_RX12_150 (ly_a420 hL) rfl (ly_r420_63 hL) ?_
    refine ex_step (pc' := 115) dX12_walks_113 rfl ?_
    obtain ⟨hv, h⟩ := h
    refine ex_iald dX12_walks_115 (Or.inl (ly_a464 hL)) hv ?_
    refine ex_step (pc' := 117) dX12_walks_116 rfl ?_
    refine ex_topi (fun y1 ey1 => ?_)
    have h := h y1 ey1
    refine ex_step (pc' := 119) (ls' := [some (.ref 420), some (.int x1), some (.int x2), some (.int x3), some (.int x4), some (.int x5), some (.int x6), some (.int y1), none, none, none]) dX12_walks_117 rfl ?_
    refine ex_step (pc' := 120) (st' := [.int 0]) dX12_walks_119 rfl ?_
    refine ex_step (pc' := 122) (ls' := [some (.ref 420), some (.int x1), some (.int x2), some (.int x3), some (.int x4), some (.int x5), some (.int x6), some (.int y1), some (.int 0), none, none]) dX12_walks_120 rfl ?_
    exact h
set_option maxHeartbeats 4000000 in
theorem BX12_walks_122 {d : Nat} {Z : zZ} {I : zI} {J : zJ} {o : zO} {t u : Nat} (x1 : Int32) (x2 : Int32) (x3 : Int32) (x4 : Int32) (x5 : Int32) (x6 : Int32) (x7 : Int32) (x8 : Int32) (hL : zLY Z t u)  (h : ((2 ≤ x8 → zE (d + 3) kX12_walks 78 [some (.ref 420), some (.int x1), some (.int x2), some (.int x3), some (.int x4), some (.int x5), some (.int (x6 + 1)), none, none, none, none] [] Z I J o) ∧ (¬ 2 ≤ x8 → ((x8 = x2 → zE (d + 3) kX12_walks 141 [some (.ref 420), some (.int x1), some (.int x2), some (.int x3), some (.int x4), some (.int x5), some (.int x6), some (.int x7), some (.int x8), some (.int 0), none] [] Z I J o) ∧ (¬ x8 = x2 → zE (d + 3) kX12_walks 141 [some (.ref 420), some (.int x1), some (.int x2), some (.int x3), some (.int x4), some (.int x5), some (.int x6), some (.int x7), some (.int x8), some (.int 1), none] [] Z I J o))))) : zE (d + 3) kX12_walks 122 [some (.ref 420), some (.int x1), some (.int x2), some (.int x3), some (.int x4), some (.int x5), some (.int x6), some (.int x7), some (.int x8), none, none] [] Z I J o := by
  refine ex_step (pc' := 124) dX12_walks_122 rfl ?_
  refine ex_step (pc' := 125) (st' := [.int 2, .int x8]) dX12_walks_124 rfl ?_
  refine ex_icmp (pc' := 266) dX12_walks_125 (by decide) (fun c => ?_) (fun c => ?_)
  · have h := h.1 c
    refine ex_step (pc' := 269) (ls' := [some (.ref 420), some (.int x1), some (.int x2), some (.int x3), some (.int x4), some (.int x5), some (.int (x6 + 1)), some (.int x7), some (.int x8), none, none]) dX12_walks_266 rfl ?_
    refine ex_step (pc' := 78) dX12_walks_269 rfl ?_
    exact ex_less (ls' := [some (.ref 420), some (.int x1), some (.int x2), some (.int x3), some (.int x4), some (.int x5), some (.int (x6 + 1)), none, none, none, none]) ⟨rfl, ⟨rfl, ⟨rfl, ⟨rfl, ⟨rfl, ⟨rfl, ⟨rfl, trivial⟩⟩⟩⟩⟩⟩⟩ h
  · have h := h.2 c
    refine ex_step (pc' := 130) dX12_walks_128 rfl ?_
    refine ex_step (pc' := 131) dX12_walks_130 rfl ?_
    refine ex_icmp (pc' := 138) dX12_walks_131 (by decide) (fun c => ?_) (fun c => ?_)
    · have h := h.1 c
      refine ex_step (pc' := 139) (st' := [.int 0]) dX12_walks_138 rfl ?_
      refine ex_step (pc' := 141) (ls' := [some (.ref 420), some (.int x1), some (.int x2), some (.int x3), some (.int x4), some (.int x5), some (.int x6), some (.int x7), some (.int x8), some (.int 0), none]) dX12_walks_139 rfl ?_
      exact h
    · have h := h.2 c
      refine ex_step (pc' := 135) (st' := [.int 1]) dX12_walks_134 rfl ?_
      refine ex_step (pc' := 139) dX12_walks_135 rfl ?_
      refine ex_step (pc' := 141) (ls' := [some (.ref 420), some (.int x1), some (.int x2), some (.int x3), some (.int x4), some (.int x5), some (.int x6), some (.int x7), some (.int x8), some (.int 1), none]) dX12_walks_139 rfl ?_
      exact h
set_option maxHeartbeats 4000000 in
theorem BX12_walks_141 {d : Nat} {Z : zZ} {I : zI} {J : zJ} {o : zO} {t u : Nat} (x1 : Int32) (x2 : Int32) (x3 : Int32) (x4 : Int32) (x5 : Int32) (x6 : Int32) (x7 : Int32) (x8 : Int32) (x9 : Int32) (hL : zLY Z t u)  (h : ((x9 = 0 → (vp_in x7 84 ∧ ((x4 = (I 436 x7.toNatClampNeg) → zE (d + 3) kX12_walks 260 [some (.ref 420), some (.int x1), some (.int x2), some (.int x3), some (.int x4), some (.int x5), some (.int x6), some (.int x7), some (.int x8), none, none] [] Z I J o) ∧ (¬ x4 = (I 436 x7.toNatClampNeg) → zE (d + 3) kX12_walks 173 [some (.ref 420), some (.int x1), some (.int x2), some (.int x3), some (.int x4), some (.int x5), some (.int x6), some (.int x7), some (.int x8), some (.int x9), none] [] Z I J o)))) ∧ (¬ x9 = 0 → (vp_in x7 84 ∧ ((x5 = (I 437 x7.toNatClampNeg) → zE (d + 3) kX12_walks 260 [some (.ref 420), some (.int x1), some (.int x2), some (.int x3), some (.int x4), some (.int x5), some (.int x6), some (.int x7), some (.int x8), none, none] [] Z I J o) ∧ (¬ x5 = (I 437 x7.toNatClampNeg) → zE (d + 3) kX12_walks 173 [some (.ref 420), some (.int x1), some (.int x2), some (.int x3), some (.int x4), some (.int x5), some (.int x6), some (.int x7), some (.int x8), some (.int x9), none] [] Z I J o)))))) : zE (d + 3) kX12_walks 141 [some (.ref 420), some (.int x1), some (.int x2), some (.int x3), some (.int x4), some (.int x5), some (.int x6), some (.int x7), some (.int x8), some (.int x9), none] [] Z I J o := by
  refine ex_step (pc' := 143) dX12_walks_141 rfl ?_
  refine ex_if (pc' := 161) dX12_walks_143 (by decide) (fun c => ?_) (fun c => ?_)
  · have h := h.1 c
    refine ex_step (pc' := 163) dX12_walks_161 rfl ?_
    refine ex_step (pc' := 164) dX12_walks_163 rfl ?_
    refine ex_getr dX12_walks_164 wf_RX12_64 (ly_a420 hL) rfl (ly_r420_29 hL) ?_
    refine ex_step (pc' := 169) dX12_walks_167 rfl ?_
    obtain ⟨hv, h⟩ := h
    refine ex_iald dX12_walks_169 (Or.inl (ly_a436 hL)) hv ?_
    refine ex_icmp (pc' := 260) dX12_walks_170 (by decide) (fun c => ?_) (fun c => ?_)
    · have h := h.1 c
      exact ex_less (ls' := [some (.ref 420), some (.int x1), some (.int x2), some (.int x3), some (.int x4), some (.int x5), some (.int x6), some (.int x7), some (.int x8), none, none]) ⟨rfl, ⟨rfl, ⟨rfl, ⟨rfl, ⟨rfl, ⟨rfl, ⟨rfl, ⟨rfl, ⟨rfl, trivial⟩⟩⟩⟩⟩⟩⟩⟩⟩ h
    · have h := h.2 c
      exact h
  · have h := h.2 c
    refine ex_step (pc' := 148) dX12_walks_146 rfl ?_
    refine ex_step (pc' := 149) dX12_walks_148 rfl ?_
    refine ex_getr dX12_walks_149 wf_RX12_67 (ly_a420 hL) rfl (ly_r420_30 hL) ?_
    refine ex_step (pc' := 154) dX12_walks_152 rfl ?_
    obtain ⟨hv, h⟩ := h
    refine ex_iald dX12_walks_154 (Or.inl (ly_a437 hL)) hv ?_
    refine ex_icmp (pc' := 260) dX12_walks_155 (by decide) (fun c => ?_) (fun c => ?_)
    · have h := h.1 c
      exact ex_less (ls' := [some (.ref 420), some (.int x1), some (.int x2), some (.int x3), some (.int x4), some (.int x5), some (.int x6), some (.int x7), some (.int x8), none, none]) ⟨rfl, ⟨rfl, ⟨rfl, ⟨rfl, ⟨rfl, ⟨rfl, ⟨rfl, ⟨rfl, ⟨rfl, trivial⟩⟩⟩⟩⟩⟩⟩⟩⟩ h
    · have h := h.2 c
      refine ex_step (pc' := 173) dX12_walks_158 rfl ?_
      exact h
set_option maxHeartbeats 4000000 in
theorem BX12_walks_173 {d : Nat} {Z : zZ} {I : zI} {J : zJ} {o : zO} {t u : Nat} (x1 : Int32) (x2 : Int32) (x3 : Int32) (x4 : Int32) (x5 : Int32) (x6 : Int32) (x7 : Int32) (x8 : Int32) (x9 : Int32) (hL : zLY Z t u)  (h : ((x9 = 0 → (vp_in x7 84 ∧ (((I 436 x7.toNatClampNeg) ≤ x4 → (vp_in (x3 + (zsm x4 x5 4)) 4032 ∧ (vp_in (x3 + (zsm x4 x5 4)) 4032 ∧ (∀ I1 : zI, I1 = zu I 466 (x3 + (zsm x4 x5 4)).toNatClampNeg ((I 466 (x3 + (zsm x4 x5 4)).toNatClampNeg) + 1) → zE (d + 3) kX12_walks 141 [some (.ref 420), some (.int x1), some (.int x2), some (.int x3), some (.int (x4 + (zdx 4))), some (.int (x5 + (zdy 4))), some (.int x6), some (.int x7), some (.int x8), some (.int x9), none] [] Z I1 J o)))) ∧ (¬ (I 436 x7.toNatClampNeg) ≤ x4 → (vp_in (x3 + (zsm x4 x5 2)) 4032 ∧ (vp_in (x3 + (zsm x4 x5 2)) 4032 ∧ (∀ I2 : zI, I2 = zu I 466 (x3 + (zsm x4 x5 2)).toNatClampNeg ((I 466 (x3 + (zsm x4 x5 2)).toNatClampNeg) + 1) → zE (d + 3) kX12_walks 141 [some (.ref 420), some (.int x1), some (.int x2), some (.int x3), some (.int (x4 + (zdx 2))), some (.int (x5 + (zdy 2))), some (.int x6), some (.int x7), some (.int x8), some (.int x9), none] [] Z I2 J o))))))) ∧ (¬ x9 = 0 → (vp_in x7 84 ∧ (((I 437 x7.toNatClampNeg) ≤ x5 → (vp_in (x3 + (zsm x4 x5 3)) 4032 ∧ (vp_in (x3 + (zsm x4 x5 3)) 4032 ∧ (∀ I3 : zI, I3 = zu I 466 (x3 + (zsm x4 x5 3)).toNatClampNeg ((I 466 (x3 + (zsm x4 x5 3)).toNatClampNeg) + 1) → zE (d + 3) kX12_walks 141 [some (.ref 420), some (.int x1), some (.int x2), some (.int x3), some (.int (x4 + (zdx 3))), some (.int (x5 + (zdy 3))), some (.int x6), some (.int x7), some (.int x8), some (.int x9), none] [] Z I3 J o)))) ∧ (¬ (I 437 x7.toNatClampNeg) ≤ x5 → (vp_in (x3 + (zsm x4 x5 1)) 4032 ∧ (vp_in (x3 + (zsm x4 x5 1)) 4032 ∧ (∀ I4 : zI, I4 = zu I 466 (x3 + (zsm x4 x5 1)).toNatClampNeg ((I 466 (x3 + (zsm x4 x5 1)).toNatClampNeg) + 1) → zE (d + 3) kX12_walks 141 [some (.ref 420), some (.int x1), some (.int x2), some (.int x3), some (.int (x4 + (zdx 1))), some (.int (x5 + (zdy 1))), some (.int x6), some (.int x7), some (.int x8), some (.int x9), none] [] Z I4 J o))))))))) : zE (d + 3) kX12_walks 173 [some (.ref 420), some (.int x1), some (.int x2), some (.int x3), some (.int x4), some (.int x5), some (.int x6), some (.int x7), some (.int x8), some (.int x9), none] [] Z I J o := by
  refine ex_step (pc' := 175) dX12_walks_173 rfl ?_
  refine ex_if (pc' := 198) dX12_walks_175 (by decide) (fun c => ?_) (fun c => ?_)
  · have h := h.1 c
    refine ex_step (pc' := 200) dX12_walks_198 rfl ?_
    refine ex_step (pc' := 201) dX12_walks_200 rfl ?_
    refine ex_getr dX12_walks_201 wf_RX12_64 (ly_a420 hL) rfl (ly_r420_29 hL) ?_
    refine ex_step (pc' := 206) dX12_walks_204 rfl ?_
    obtain ⟨hv, h⟩ := h
    refine ex_iald dX12_walks_206 (Or.inl (ly_a436 hL)) hv ?_
    refine ex_icmp (pc' := 214) dX12_walks_207 (by decide) (fun c => ?_) (fun c => ?_)
    · have h := h.1 c
      refine ex_step (pc' := 215) (st' := [.int 4]) dX12_walks_214 rfl ?_
      refine ex_step (pc' := 217) (ls' := [some (.ref 420), some (.int x1), some (.int x2), some (.int x3), some (.int x4), some (.int x5), some (.int x6), some (.int x7), some (.int x8), some (.int x9), some (.int 4)]) dX12_walks_215 rfl ?_
      refine ex_step (pc' := 218) dX12_walks_217 rfl ?_
      refine ex_getr dX12_walks_218 wf_RX12_156 (ly_a420 hL) rfl (ly_r420_67 hL) ?_
      refine ex_step (pc' := 222) dX12_walks_221 rfl ?_
      refine ex_step (pc' := 224) dX12_walks_222 rfl ?_
      refine ex_step (pc' := 226) dX12_walks_224 rfl ?_
      refine ex_step (pc' := 228) dX12_walks_226 rfl ?_
      refine ex_callS (as := [.int x4, .int x5, .int 4]) (st := [.int x3, .ref 466]) dX12_walks_228 zmX12_streetOf zl_RX12_378 zsX12_streetOf rfl (Nat.le_of_ble_eq_true rfl) (Nat.le_of_ble_eq_true rfl) M_streetOf ?_
      refine ex_step (pc' := 232) dX12_walks_231 rfl ?_
      refine ex_step (pc' := 233) dX12_walks_232 rfl ?_
      obtain ⟨hv, h⟩ := h
      refine ex_iald dX12_walks_233 (Or.inl (ly_a466 hL)) hv ?_
      refine ex_step (pc' := 235) (st' := [.int 1, .int (I 466 (x3 + (zsm x4 x5 4)).toNatClampNeg), .int (x3 + (zsm x4 x5 4)), .ref 466]) dX12_walks_234 rfl ?_
      refine ex_step (pc' := 236) dX12_walks_235 rfl ?_
      obtain ⟨hv, h⟩ := h
      refine ex_iastN dX12_walks_236 (ly_a466 hL) hv (fun I1 eI1 => ?_)
      have h := h I1 eI1
      refine ex_step (pc' := 239) dX12_walks_237 rfl ?_
      refine ex_step (pc' := 241) dX12_walks_239 rfl ?_
      refine ex_callS (as := [.int 4]) (st := [.int x4]) dX12_walks_241 zmX12_dx zl_RX12_368 zsX12_dx rfl (Nat.le_of_ble_eq_true rfl) (Nat.le_of_ble_eq_true rfl) M_dx ?_
      refine ex_step (pc' := 245) dX12_walks_244 rfl ?_
      refine ex_step (pc' := 247) (ls' := [some (.ref 420), some (.int x1), some (.int x2), some (.int x3), some (.int (x4 + (zdx 4))), some (.int x5), some (.int x6), some (.int x7), some (.int x8), some (.int x9), some (.int 4)]) dX12_walks_245 rfl ?_
      refine ex_step (pc' := 249) dX12_walks_247 rfl ?_
      refine ex_step (pc' := 251) dX12_walks_249 rfl ?_
      refine ex_callS (as := [.int 4]) (st := [.int x5]) dX12_walks_251 zmX12_dy zl_RX12_371 zsX12_dy rfl (Nat.le_of_ble_eq_true rfl) (Nat.le_of_ble_eq_true rfl) M_dy ?_
      refine ex_step (pc' := 255) dX12_walks_254 rfl ?_
      refine ex_step (pc' := 257) (ls' := [some (.ref 420), some (.int x1), some (.int x2), some (.int x3), some (.int (x4 + (zdx 4))), some (.int (x5 + (zdy 4))), some (.int x6), some (.int x7), some (.int x8), some (.int x9), some (.int 4)]) dX12_walks_255 rfl ?_
      refine ex_step (pc' := 141) dX12_walks_257 rfl ?_
      exact ex_less (ls' := [some (.ref 420), some (.int x1), some (.int x2), some (.int x3), some (.int (x4 + (zdx 4))), some (.int (x5 + (zdy 4))), some (.int x6), some (.int x7), some (.int x8), some (.int x9), none]) ⟨rfl, ⟨rfl, ⟨rfl, ⟨rfl, ⟨rfl, ⟨rfl, ⟨rfl, ⟨rfl, ⟨rfl, ⟨rfl, trivial⟩⟩⟩⟩⟩⟩⟩⟩⟩⟩ h
    · have h := h.2 c
      refine ex_step (pc' := 211) (st' := [.int 2]) dX12_walks_210 rfl ?_
      refine ex_step (pc' := 215) dX12_walks_211 rfl ?_
      refine ex_step (pc' := 217) (ls' := [some (.ref 420), some (.int x1), some (.int x2), some (.int x3), some (.int x4), some (.int x5), some (.int x6), some (.int x7), some (.int x8), some (.int x9), some (.int 2)]) dX12_walks_215 rfl ?_
      refine ex_step (pc' := 218) dX12_walks_217 rfl ?_
      refine ex_getr dX12_walks_218 wf_RX12_156 (ly_a420 hL) rfl (ly_r420_67 hL) ?_
      refine ex_step (pc' := 222) dX12_walks_221 rfl ?_
      refine ex_step (pc' := 224) dX12_walks_222 rfl ?_
      refine ex_step (pc' := 226) dX12_walks_224 rfl ?_
      refine ex_step (pc' := 228) dX12_walks_226 rfl ?_
      refine ex_callS (as := [.int x4, .int x5, .int 2]) (st := [.int x3, .ref 466]) dX12_walks_228 zmX12_streetOf zl_RX12_378 zsX12_streetOf rfl (Nat.le_of_ble_eq_true rfl) (Nat.le_of_ble_eq_true rfl) M_streetOf ?_
      refine ex_step (pc' := 232) dX12_walks_231 rfl ?_
      refine ex_step (pc' := 233) dX12_walks_232 rfl ?_
      obtain ⟨hv, h⟩ := h
      refine ex_iald dX12_walks_233 (Or.inl (ly_a466 hL)) hv ?_
      refine ex_step (pc' := 235) (st' := [.int 1, .int (I 466 (x3 + (zsm x4 x5 2)).toNatClampNeg), .int (x3 + (zsm x4 x5 2)), .ref 466]) dX12_walks_234 rfl ?_
      refine ex_step (pc' := 236) dX12_walks_235 rfl ?_
      obtain ⟨hv, h⟩ := h
      refine ex_iastN dX12_walks_236 (ly_a466 hL) hv (fun I2 eI2 => ?_)
      have h := h I2 eI2
      refine ex_step (pc' := 239) dX12_walks_237 rfl ?_
      refine ex_step (pc' := 241) dX12_walks_239 rfl ?_
      refine ex_callS (as := [.int 2]) (st := [.int x4]) dX12_walks_241 zmX12_dx zl_RX12_368 zsX12_dx rfl (Nat.le_of_ble_eq_true rfl) (Nat.le_of_ble_eq_true rfl) M_dx ?_
      refine ex_step (pc' := 245) dX12_walks_244 rfl ?_
      refine ex_step (pc' := 247) (ls' := [some (.ref 420), some (.int x1), some (.int x2), some (.int x3), some (.int (x4 + (zdx 2))), some (.int x5), some (.int x6), some (.int x7), some (.int x8), some (.int x9), some (.int 2)]) dX12_walks_245 rfl ?_
      refine ex_step (pc' := 249) dX12_walks_247 rfl ?_
      refine ex_step (pc' := 251) dX12_walks_249 rfl ?_
      refine ex_callS (as := [.int 2]) (st := [.int x5]) dX12_walks_251 zmX12_dy zl_RX12_371 zsX12_dy rfl (Nat.le_of_ble_eq_true rfl) (Nat.le_of_ble_eq_true rfl) M_dy ?_
      refine ex_step (pc' := 255) dX12_walks_254 rfl ?_
      refine ex_step (pc' := 257) (ls' := [some (.ref 420), some (.int x1), some (.int x2), some (.int x3), some (.int (x4 + (zdx 2))), some (.int (x5 + (zdy 2))), some (.int x6), some (.int x7), some (.int x8), some (.int x9), some (.int 2)]) dX12_walks_255 rfl ?_
      refine ex_step (pc' := 141) dX12_walks_257 rfl ?_
      exact ex_less (ls' := [some (.ref 420), some (.int x1), some (.int x2), some (.int x3), some (.int (x4 + (zdx 2))), some (.int (x5 + (zdy 2))), some (.int x6), some (.int x7), some (.int x8), some (.int x9), none]) ⟨rfl, ⟨rfl, ⟨rfl, ⟨rfl, ⟨rfl, ⟨rfl, ⟨rfl, ⟨rfl, ⟨rfl, ⟨rfl, trivial⟩⟩⟩⟩⟩⟩⟩⟩⟩⟩ h
  · have h := h.2 c
    refine ex_step (pc' := 180) dX12_walks_178 rfl ?_
    refine ex_step (pc' := 181) dX12_walks_180 rfl ?_
    refine ex_getr dX12_walks_181 wf_RX12_67 (ly_a420 hL) rfl (ly_r420_30 hL) ?_
    refine ex_step (pc' := 186) dX12_walks_184 rfl ?_
    obtain ⟨hv, h⟩ := h
    refine ex_iald dX12_walks_186 (Or.inl (ly_a437 hL)) hv ?_
    refine ex_icmp (pc' := 194) dX12_walks_187 (by decide) (fun c => ?_) (fun c => ?_)
    · have h := h.1 c
      refine ex_step (pc' := 195) (st' := [.int 3]) dX12_walks_194 rfl ?_
      refine ex_step (pc' := 215) dX12_walks_195 rfl ?_
      refine ex_step (pc' := 217) (ls' := [some (.ref 420), some (.int x1), some (.int x2), some (.int x3), some (.int x4), some (.int x5), some (.int x6), some (.int x7), some (.int x8), some (.int x9), some (.int 3)]) dX12_walks_215 rfl ?_
      refine ex_step (pc' := 218) dX12_walks_217 rfl ?_
      refine ex_getr dX12_walks_218 wf_RX12_156 (ly_a420 hL) rfl (ly_r420_67 hL) ?_
      refine ex_step (pc' := 222) dX12_walks_221 rfl ?_
      refine ex_step (pc' := 224) dX12_walks_222 rfl ?_
      refine ex_step (pc' := 226) dX12_walks_224 rfl ?_
      refine ex_step (pc' := 228) dX12_walks_226 rfl ?_
      refine ex_callS (as := [.int x4, .int x5, .int 3]) (st := [.int x3, .ref 466]) dX12_walks_228 zmX12_streetOf zl_RX12_378 zsX12_streetOf rfl (Nat.le_of_ble_eq_true rfl) (Nat.le_of_ble_eq_true rfl) M_streetOf ?_
      refine ex_step (pc' := 232) dX12_walks_231 rfl ?_
      refine ex_step (pc' := 233) dX12_walks_232 rfl ?_
      obtain ⟨hv, h⟩ := h
      refine ex_iald dX12_walks_233 (Or.inl (ly_a466 hL)) hv ?_
      refine ex_step (pc' := 235) (st' := [.int 1, .int (I 466 (x3 + (zsm x4 x5 3)).toNatClampNeg), .int (x3 + (zsm x4 x5 3)), .ref 466]) dX12_walks_234 rfl ?_
      refine ex_step (pc' := 236) dX12_walks_235 rfl ?_
      obtain ⟨hv, h⟩ := h
      refine ex_iastN dX12_walks_236 (ly_a466 hL) hv (fun I3 eI3 => ?_)
      have h := h I3 eI3
      refine ex_step (pc' := 239) dX12_walks_237 rfl ?_
      refine ex_step (pc' := 241) dX12_walks_239 rfl ?_
      refine ex_callS (as := [.int 3]) (st := [.int x4]) dX12_walks_241 zmX12_dx zl_RX12_368 zsX12_dx rfl (Nat.le_of_ble_eq_true rfl) (Nat.le_of_ble_eq_true rfl) M_dx ?_
      refine ex_step (pc' := 245) dX12_walks_244 rfl ?_
      refine ex_step (pc' := 247) (ls' := [some (.ref 420), some (.int x1), some (.int x2), some (.int x3), some (.int (x4 + (zdx 3))), some (.int x5), some (.int x6), some (.int x7), some (.int x8), some (.int x9), some (.int 3)]) dX12_walks_245 rfl ?_
      refine ex_step (pc' := 249) dX12_walks_247 rfl ?_
      refine ex_step (pc' := 251) dX12_walks_249 rfl ?_
      refine ex_callS (as := [.int 3]) (st := [.int x5]) dX12_walks_251 zmX12_dy zl_RX12_371 zsX12_dy rfl (Nat.le_of_ble_eq_true rfl) (Nat.le_of_ble_eq_true rfl) M_dy ?_
      refine ex_step (pc' := 255) dX12_walks_254 rfl ?_
      refine ex_step (pc' := 257) (ls' := [some (.ref 420), some (.int x1), some (.int x2), some (.int x3), some (.int (x4 + (zdx 3))), some (.int (x5 + (zdy 3))), some (.int x6), some (.int x7), some (.int x8), some (.int x9), some (.int 3)]) dX12_walks_255 rfl ?_
      refine ex_step (pc' := 141) dX12_walks_257 rfl ?_
      exact ex_less (ls' := [some (.ref 420), some (.int x1), some (.int x2), some (.int x3), some (.int (x4 + (zdx 3))), some (.int (x5 + (zdy 3))), some (.int x6), some (.int x7), some (.int x8), some (.int x9), none]) ⟨rfl, ⟨rfl, ⟨rfl, ⟨rfl, ⟨rfl, ⟨rfl, ⟨rfl, ⟨rfl, ⟨rfl, ⟨rfl, trivial⟩⟩⟩⟩⟩⟩⟩⟩⟩⟩ h
    · have h := h.2 c
      refine ex_step (pc' := 191) (st' := [.int 1]) dX12_walks_190 rfl ?_
      refine ex_step (pc' := 215) dX12_walks_191 rfl ?_
      refine ex_step (pc' := 217) (ls' := [some (.ref 420), some (.int x1), some (.int x2), some (.int x3), some (.int x4), some (.int x5), some (.int x6), some (.int x7), some (.int x8), some (.int x9), some (.int 1)]) dX12_walks_215 rfl ?_
      refine ex_step (pc' := 218) dX12_walks_217 rfl ?_
      refine ex_getr dX12_walks_218 wf_RX12_156 (ly_a420 hL) rfl (ly_r420_67 hL) ?_
      refine ex_step (pc' := 222) dX12_walks_221 rfl ?_
      refine ex_step (pc' := 224) dX12_walks_222 rfl ?_
      refine ex_step (pc' := 226) dX12_walks_224 rfl ?_
      refine ex_step (pc' := 228) dX12_walks_226 rfl ?_
      refine ex_callS (as := [.int x4, .int x5, .int 1]) (st := [.int x3, .ref 466]) dX12_walks_228 zmX12_streetOf zl_RX12_378 zsX12_streetOf rfl (Nat.le_of_ble_eq_true rfl) (Nat.le_of_ble_eq_true rfl) M_streetOf ?_
      refine ex_step (pc' := 232) dX12_walks_231 rfl ?_
      refine ex_step (pc' := 233) dX12_walks_232 rfl ?_
      obtain ⟨hv, h⟩ := h
      refine ex_iald dX12_walks_233 (Or.inl (ly_a466 hL)) hv ?_
      refine ex_step (pc' := 235) (st' := [.int 1, .int (I 466 (x3 + (zsm x4 x5 1)).toNatClampNeg), .int (x3 + (zsm x4 x5 1)), .ref 466]) dX12_walks_234 rfl ?_
      refine ex_step (pc' := 236) dX12_walks_235 rfl ?_
      obtain ⟨hv, h⟩ := h
      refine ex_iastN dX12_walks_236 (ly_a466 hL) hv (fun I4 eI4 => ?_)
      have h := h I4 eI4
      refine ex_step (pc' := 239) dX12_walks_237 rfl ?_
      refine ex_step (pc' := 241) dX12_walks_239 rfl ?_
      refine ex_callS (as := [.int 1]) (st := [.int x4]) dX12_walks_241 zmX12_dx zl_RX12_368 zsX12_dx rfl (Nat.le_of_ble_eq_true rfl) (Nat.le_of_ble_eq_true rfl) M_dx ?_
      refine ex_step (pc' := 245) dX12_walks_244 rfl ?_
      refine ex_step (pc' := 247) (ls' := [some (.ref 420), some (.int x1), some (.int x2), some (.int x3), some (.int (x4 + (zdx 1))), some (.int x5), some (.int x6), some (.int x7), some (.int x8), some (.int x9), some (.int 1)]) dX12_walks_245 rfl ?_
      refine ex_step (pc' := 249) dX12_walks_247 rfl ?_
      refine ex_step (pc' := 251) dX12_walks_249 rfl ?_
      refine ex_callS (as := [.int 1]) (st := [.int x5]) dX12_walks_251 zmX12_dy zl_RX12_371 zsX12_dy rfl (Nat.le_of_ble_eq_true rfl) (Nat.le_of_ble_eq_true rfl) M_dy ?_
      refine ex_step (pc' := 255) dX12_walks_254 rfl ?_
      refine ex_step (pc' := 257) (ls' := [some (.ref 420), some (.int x1), some (.int x2), some (.int x3), some (.int (x4 + (zdx 1))), some (.int (x5 + (zdy 1))), some (.int x6), some (.int x7), some (.int x8), some (.int x9), some (.int 1)]) dX12_walks_255 rfl ?_
      refine ex_step (pc' := 141) dX12_walks_257 rfl ?_
      exact ex_less (ls' := [some (.ref 420), some (.int x1), some (.int x2), some (.int x3), some (.int (x4 + (zdx 1))), some (.int (x5 + (zdy 1))), some (.int x6), some (.int x7), some (.int x8), some (.int x9), none]) ⟨rfl, ⟨rfl, ⟨rfl, ⟨rfl, ⟨rfl, ⟨rfl, ⟨rfl, ⟨rfl, ⟨rfl, ⟨rfl, trivial⟩⟩⟩⟩⟩⟩⟩⟩⟩⟩ h
set_option maxHeartbeats 4000000 in
theorem BX12_walks_260 {d : Nat} {Z : zZ} {I : zI} {J : zJ} {o : zO} {t u : Nat} (x1 : Int32) (x2 : Int32) (x3 : Int32) (x4 : Int32) (x5 : Int32) (x6 : Int32) (x7 : Int32) (x8 : Int32) (hL : zLY Z t u)  (h : zE (d + 3) kX12_walks 122 [some (.ref 420), some (.int x1), some (.int x2), some (.int x3), some (.int x4), some (.int x5), some (.int x6), some (.int x7), some (.int (x8 + 1)), none, none] [] Z I J o) : zE (d + 3) kX12_walks 260 [some (.ref 420), some (.int x1), some (.int x2), some (.int x3), some (.int x4), some (.int x5), some (.int x6), some (.int x7), some (.int x8), none, none] [] Z I J o := by
  refine ex_step (pc' := 263) (ls' := [some (.ref 420), some (.int x1), some (.int x2), some (.int x3), some (.int x4), some (.int x5), some (.int x6), some (.int x7), some (.int (x8 + 1)), none, none]) dX12_walks_260 rfl ?_
  refine ex_step (pc' := 122) dX12_walks_263 rfl ?_
  exact h
set_option maxHeartbeats 4000000 in
theorem BX12_plain_0 {d : Nat} {Z : zZ} {I : zI} {J : zJ} {o : zO} {t u : Nat} (x1 : Int32) (hL : zLY Z t u)  (h : ((¬ (zbi (0 ≤ x1 ∧ x1 ≤ 1)) = 0 → zE (d + 4) kX12_plain 13 [some (.ref 420), some (.int x1), some (.int 0), none, none, none, none, none] [] Z I J o) ∧ ((zbi (0 ≤ x1 ∧ x1 ≤ 1)) = 0 → o = (some (.int (-1)), Z, I, J)))) : zE (d + 4) kX12_plain 0 [some (.ref 420), some (.int x1), none, none, none, none, none, none] [] Z I J o := by
  refine ex_step (pc' := 1) dX12_plain_0 rfl ?_
  refine ex_step (pc' := 2) (st' := [.int 0, .int x1]) dX12_plain_1 rfl ?_
  refine ex_step (pc' := 3) (st' := [.int 1, .int 0, .int x1]) dX12_plain_2 rfl ?_
  refine ex_callS (as := [.int x1, .int 0, .int 1]) (st := []) dX12_plain_3 zmX12_in zl_RX12_345 zsX12_in rfl (Nat.le_of_ble_eq_true rfl) (Nat.le_of_ble_eq_true rfl) M_in ?_
  refine ex_if (pc' := 11) dX12_plain_6 (by decide) (fun c => ?_) (fun c => ?_)
  · have h := h.1 c
    refine ex_step (pc' := 12) (st' := [.int 0]) dX12_plain_11 rfl ?_
    refine ex_step (pc' := 13) (ls' := [some (.ref 420), some (.int x1), some (.int 0), none, none, none, none, none]) dX12_plain_12 rfl ?_
    exact h
  · have h := h.2 (Classical.not_not.mp c)
    refine ex_step (pc' := 10) (st' := [.int (-1)]) dX12_plain_9 rfl ?_
    rw [h]; exact ex_ret (v := some (.int (-1))) ⟨dX12_plain_10, _, rfl, rfl⟩
set_option maxHeartbeats 4000000 in
theorem BX12_plain_13 {d : Nat} {Z : zZ} {I : zI} {J : zJ} {o : zO} {t u : Nat} (x1 : Int32) (x2 : Int32) (hL : zLY Z t u)  (h : (vp_in (I 420 18) 2 ∧ (((I 431 (I 420 18).toNatClampNeg) ≤ x2 → zE (d + 4) kX12_plain 53 [some (.ref 420), some (.int x1), some (.int 0), none, none, none, none, none] [] Z I J o) ∧ (¬ (I 431 (I 420 18).toNatClampNeg) ≤ x2 → zE (d + 4) kX12_plain 28 [some (.ref 420), some (.int x1), some (.int x2), some (.int 0), none, none, none, none] [] Z I J o)))) : zE (d + 4) kX12_plain 13 [some (.ref 420), some (.int x1), some (.int x2), none, none, none, none, none] [] Z I J o := by
  refine ex_step (pc' := 14) dX12_plain_13 rfl ?_
  refine ex_step (pc' := 15) dX12_plain_14 rfl ?_
  refine ex_getr dX12_plain_15 wf_RX12_49 (ly_a420 hL) rfl (ly_r420_24 hL) ?_
  refine ex_step (pc' := 19) dX12_plain_18 rfl ?_
  refine ex_geti dX12_plain_19 wf_RX12_258 (ly_a420 hL) rfl ?_
  obtain ⟨hv, h⟩ := h
  refine ex_iald dX12_plain_22 (Or.inl (ly_a431 hL)) hv ?_
  refine ex_icmp (pc' := 51) dX12_plain_23 (by decide) (fun c => ?_) (fun c => ?_)
  · have h := h.1 c
    refine ex_step (pc' := 52) (st' := [.int 0]) dX12_plain_51 rfl ?_
    refine ex_step (pc' := 53) (ls' := [some (.ref 420), some (.int x1), some (.int 0), none, none, none, none, none]) dX12_plain_52 rfl ?_
    exact h
  · have h := h.2 c
    refine ex_step (pc' := 27) (st' := [.int 0]) dX12_plain_26 rfl ?_
    refine ex_step (pc' := 28) (ls' := [some (.ref 420), some (.int x1), some (.int x2), some (.int 0), none, none, none, none]) dX12_plain_27 rfl ?_
    exact h
set_option maxHeartbeats 4000000 in
theorem BX12_plain_28 {d : Nat} {Z : zZ} {I : zI} {J : zJ} {o : zO} {t u : Nat} (x1 : Int32) (x2 : Int32) (x3 : Int32) (hL : zLY Z t u)  (h : ((2 ≤ x3 → zE (d + 4) kX12_plain 13 [some (.ref 420), some (.int x1), some (.int (x2 + 1)), none, none, none, none, none] [] Z I J o) ∧ (¬ 2 ≤ x3 → (∃ (I1 : zI), zE (d + 3) kX12_walks 0 [some (.ref 420), some (.int x2), some (.int x3), none, none, none, none, none, none, none, none] [] Z I J (none, Z, I1, J) ∧ zE (d + 4) kX12_plain 28 [some (.ref 420), some (.int x1), some (.int x2), some (.int (x3 + 1)), none, none, none, none] [] Z I1 J o)))) : zE (d + 4) kX12_plain 28 [some (.ref 420), some (.int x1), some (.int x2), some (.int x3), none, none, none, none] [] Z I J o := by
  refine ex_step (pc' := 29) dX12_plain_28 rfl ?_
  refine ex_step (pc' := 30) (st' := [.int 2, .int x3]) dX12_plain_29 rfl ?_
  refine ex_icmp (pc' := 45) dX12_plain_30 (by decide) (fun c => ?_) (fun c => ?_)
  · have h := h.1 c
    refine ex_step (pc' := 48) (ls' := [some (.ref 420), some (.int x1), some (.int (x2 + 1)), some (.int x3), none, none, none, none]) dX12_plain_45 rfl ?_
    refine ex_step (pc' := 13) dX12_plain_48 rfl ?_
    exact ex_less (ls' := [some (.ref 420), some (.int x1), some (.int (x2 + 1)), none, none, none, none, none]) ⟨rfl, ⟨rfl, ⟨rfl, trivial⟩⟩⟩ h
  · have h := h.2 c
    refine ex_step (pc' := 34) dX12_plain_33 rfl ?_
    refine ex_step (pc' := 35) dX12_plain_34 rfl ?_
    refine ex_step (pc' := 36) dX12_plain_35 rfl ?_
    obtain ⟨I1, hc, h⟩ := h
    refine ex_callV (as := [.int x2, .int x3]) (st := []) (ci := 12) dX12_plain_36 zmX12_walks zl_RX12_473 ziX12_walks zvX12_walks (by decide) (ly_a420 hL) rfl (Nat.le_of_ble_eq_true rfl) (Nat.le_of_ble_eq_true rfl) hc ?_
    refine ex_step (pc' := 42) (ls' := [some (.ref 420), some (.int x1), some (.int x2), some (.int (x3 + 1)), none, none, none, none]) dX12_plain_39 rfl ?_
    refine ex_step (pc' := 28) dX12_plain_42 rfl ?_
    exact h
set_option maxHeartbeats 4000000 in
theorem BX12_plain_53 {d : Nat} {Z : zZ} {I : zI} {J : zJ} {o : zO} {t u : Nat} (x1 : Int32) (x2 : Int32) (hL : zLY Z t u)  (h : (vp_in (I 420 18) 2 ∧ ((((2 : Int32) * (I 431 (I 420 18).toNatClampNeg)) ≤ x2 → zE (d + 4) kX12_plain 174 [some (.ref 420), some (.int x1), some (.int 0), some (.int (-1)), some (.int 0), none, none, none] [] Z I J o) ∧ (¬ ((2 : Int32) * (I 431 (I 420 18).toNatClampNeg)) ≤ x2 → zE (d + 4) kX12_plain 70 [some (.ref 420), some (.int x1), some (.int x2), some (.int 0), none, none, none, none] [] Z I J o)))) : zE (d + 4) kX12_plain 53 [some (.ref 420), some (.int x1), some (.int x2), none, none, none, none, none] [] Z I J o := by
  refine ex_step (pc' := 54) dX12_plain_53 rfl ?_
  refine ex_step (pc' := 55) (st' := [.int 2, .int x2]) dX12_plain_54 rfl ?_
  refine ex_step (pc' := 56) dX12_plain_55 rfl ?_
  refine ex_getr dX12_plain_56 wf_RX12_49 (ly_a420 hL) rfl (ly_r420_24 hL) ?_
  refine ex_step (pc' := 60) dX12_plain_59 rfl ?_
  refine ex_geti dX12_plain_60 wf_RX12_258 (ly_a420 hL) rfl ?_
  obtain ⟨hv, h⟩ := h
  refine ex_iald dX12_plain_63 (Or.inl (ly_a431 hL)) hv ?_
  refine ex_step (pc' := 65) dX12_plain_64 rfl ?_
  refine ex_icmp (pc' := 167) dX12_plain_65 (by decide) (fun c => ?_) (fun c => ?_)
  · have h := h.1 c
    refine ex_step (pc' := 168) (st' := [.int 0]) dX12_plain_167 rfl ?_
    refine ex_step (pc' := 169) (ls' := [some (.ref 420), some (.int x1), some (.int 0), none, none, none, none, none]) dX12_plain_168 rfl ?_
    refine ex_step (pc' := 170) (st' := [.int (-1)]) dX12_plain_169 rfl ?_
    refine ex_step (pc' := 171) (ls' := [some (.ref 420), some (.int x1), some (.int 0), some (.int (-1)), none, none, none, none]) dX12_plain_170 rfl ?_
    refine ex_step (pc' := 172) (st' := [.int 0]) dX12_plain_171 rfl ?_
    refine ex_step (pc' := 174) (ls' := [some (.ref 420), some (.int x1), some (.int 0), some (.int (-1)), some (.int 0), none, none, none]) dX12_plain_172 rfl ?_
    exact h
  · have h := h.2 c
    refine ex_step (pc' := 69) (st' := [.int 0]) dX12_plain_68 rfl ?_
    refine ex_step (pc' := 70) (ls' := [some (.ref 420), some (.int x1), some (.int x2), some (.int 0), none, none, none, none]) dX12_plain_69 rfl ?_
    exact h
set_option maxHeartbeats 4000000 in
theorem BX12_plain_70 {d : Nat} {Z : zZ} {I : zI} {J : zJ} {o : zO} {t u : Nat} (x1 : Int32) (x2 : Int32) (x3 : Int32) (hL : zLY Z t u)  (h : (vp_in (I 420 18) 2 ∧ ((((2 : Int32) * (I 431 (I 420 18).toNatClampNeg)) ≤ x3 → zE (d + 4) kX12_plain 53 [some (.ref 420), some (.int x1), some (.int (x2 + 1)), none, none, none, none, none] [] Z I J o) ∧ (¬ ((2 : Int32) * (I 431 (I 420 18).toNatClampNeg)) ≤ x3 → (vp_in (((14 : Int32) * x2) + x3) 196 ∧ (∀ I1 : zI, I1 = zu I 467 (((14 : Int32) * x2) + x3).toNatClampNeg 0 → zE (d + 4) kX12_plain 100 [some (.ref 420), some (.int x1), some (.int x2), some (.int x3), some (.int 0), none, none, none] [] Z I1 J o)))))) : zE (d + 4) kX12_plain 70 [some (.ref 420), some (.int x1), some (.int x2), some (.int x3), none, none, none, none] [] Z I J o := by
  refine ex_step (pc' := 71) dX12_plain_70 rfl ?_
  refine ex_step (pc' := 72) (st' := [.int 2, .int x3]) dX12_plain_71 rfl ?_
  refine ex_step (pc' := 73) dX12_plain_72 rfl ?_
  refine ex_getr dX12_plain_73 wf_RX12_49 (ly_a420 hL) rfl (ly_r420_24 hL) ?_
  refine ex_step (pc' := 77) dX12_plain_76 rfl ?_
  refine ex_geti dX12_plain_77 wf_RX12_258 (ly_a420 hL) rfl ?_
  obtain ⟨hv, h⟩ := h
  refine ex_iald dX12_plain_80 (Or.inl (ly_a431 hL)) hv ?_
  refine ex_step (pc' := 82) dX12_plain_81 rfl ?_
  refine ex_icmp (pc' := 161) dX12_plain_82 (by decide) (fun c => ?_) (fun c => ?_)
  · have h := h.1 c
    refine ex_step (pc' := 164) (ls' := [some (.ref 420), some (.int x1), some (.int (x2 + 1)), some (.int x3), none, none, none, none]) dX12_plain_161 rfl ?_
    refine ex_step (pc' := 53) dX12_plain_164 rfl ?_
    exact ex_less (ls' := [some (.ref 420), some (.int x1), some (.int (x2 + 1)), none, none, none, none, none]) ⟨rfl, ⟨rfl, ⟨rfl, trivial⟩⟩⟩ h
  · have h := h.2 c
    refine ex_step (pc' := 86) dX12_plain_85 rfl ?_
    refine ex_getr dX12_plain_86 wf_RX12_159 (ly_a420 hL) rfl (ly_r420_68 hL) ?_
    refine ex_step (pc' := 91) (st' := [.int 14, .ref 467]) dX12_plain_89 rfl ?_
    refine ex_step (pc' := 92) dX12_plain_91 rfl ?_
    refine ex_step (pc' := 93) dX12_plain_92 rfl ?_
    refine ex_step (pc' := 94) dX12_plain_93 rfl ?_
    refine ex_step (pc' := 95) dX12_plain_94 rfl ?_
    refine ex_step (pc' := 96) (st' := [.int 0, .int (((14 : Int32) * x2) + x3), .ref 467]) dX12_plain_95 rfl ?_
    obtain ⟨hv, h⟩ := h
    refine ex_iastN dX12_plain_96 (ly_a467 hL) hv (fun I1 eI1 => ?_)
    have h := h I1 eI1
    refine ex_step (pc' := 98) (st' := [.int 0]) dX12_plain_97 rfl ?_
    refine ex_step (pc' := 100) (ls' := [some (.ref 420), some (.int x1), some (.int x2), some (.int x3), some (.int 0), none, none, none]) dX12_plain_98 rfl ?_
    exact h
set_option maxHeartbeats 4000000 in
theorem BX12_plain_100 {d : Nat} {Z : zZ} {I : zI} {J : zJ} {o : zO} {t u : Nat} (x1 : Int32) (x2 : Int32) (x3 : Int32) (x4 : Int32) (hL : zLY Z t u)  (h : ((288 ≤ x4 → zE (d + 4) kX12_plain 70 [some (.ref 420), some (.int x1), some (.int x2), some (.int (x3 + 1)), none, none, none, none] [] Z I J o) ∧ (¬ 288 ≤ x4 → (vp_in (((14 : Int32) * x2) + x3) 196 ∧ (vp_in (((288 : Int32) * x2) + x4) 4032 ∧ (vp_in (((288 : Int32) * x3) + x4) 4032 ∧ (vp_in (((14 : Int32) * x2) + x3) 196 ∧ (∀ I1 : zI, I1 = zu I 467 (((14 : Int32) * x2) + x3).toNatClampNeg ((I 467 (((14 : Int32) * x2) + x3).toNatClampNeg) + ((I 466 (((288 : Int32) * x2) + x4).toNatClampNeg) * (I 466 (((288 : Int32) * x3) + x4).toNatClampNeg))) → zE (d + 4) kX12_plain 100 [some (.ref 420), some (.int x1), some (.int x2), some (.int x3), some (.int (x4 + 1)), none, none, none] [] Z I1 J o)))))))) : zE (d + 4) kX12_plain 100 [some (.ref 420), some (.int x1), some (.int x2), some (.int x3), some (.int x4), none, none, none] [] Z I J o := by
  refine ex_step (pc' := 102) dX12_plain_100 rfl ?_
  refine ex_step (pc' := 105) (st' := [.int 288, .int x4]) dX12_plain_102 rfl ?_
  refine ex_icmp (pc' := 155) dX12_plain_105 (by decide) (fun c => ?_) (fun c => ?_)
  · have h := h.1 c
    refine ex_step (pc' := 158) (ls' := [some (.ref 420), some (.int x1), some (.int x2), some (.int (x3 + 1)), some (.int x4), none, none, none]) dX12_plain_155 rfl ?_
    refine ex_step (pc' := 70) dX12_plain_158 rfl ?_
    exact ex_less (ls' := [some (.ref 420), some (.int x1), some (.int x2), some (.int (x3 + 1)), none, none, none, none]) ⟨rfl, ⟨rfl, ⟨rfl, ⟨rfl, trivial⟩⟩⟩⟩ h
  · have h := h.2 c
    refine ex_step (pc' := 109) dX12_plain_108 rfl ?_
    refine ex_getr dX12_plain_109 wf_RX12_159 (ly_a420 hL) rfl (ly_r420_68 hL) ?_
    refine ex_step (pc' := 114) (st' := [.int 14, .ref 467]) dX12_plain_112 rfl ?_
    refine ex_step (pc' := 115) dX12_plain_114 rfl ?_
    refine ex_step (pc' := 116) dX12_plain_115 rfl ?_
    refine ex_step (pc' := 117) dX12_plain_116 rfl ?_
    refine ex_step (pc' := 118) dX12_plain_117 rfl ?_
    refine ex_step (pc' := 119) dX12_plain_118 rfl ?_
    obtain ⟨hv, h⟩ := h
    refine ex_iald dX12_plain_119 (Or.inl (ly_a467 hL)) hv ?_
    refine ex_step (pc' := 121) dX12_plain_120 rfl ?_
    refine ex_getr dX12_plain_121 wf_RX12_156 (ly_a420 hL) rfl (ly_r420_67 hL) ?_
    refine ex_step (pc' := 127) (st' := [.int 288, .ref 466, .int (I 467 (((14 : Int32) * x2) + x3).toNatClampNeg), .int (((14 : Int32) * x2) + x3), .ref 467]) dX12_plain_124 rfl ?_
    refine ex_step (pc' := 128) dX12_plain_127 rfl ?_
    refine ex_step (pc' := 129) dX12_plain_128 rfl ?_
    refine ex_step (pc' := 131) dX12_plain_129 rfl ?_
    refine ex_step (pc' := 132) dX12_plain_131 rfl ?_
    obtain ⟨hv, h⟩ := h
    refine ex_iald dX12_plain_132 (Or.inl (ly_a466 hL)) hv ?_
    refine ex_step (pc' := 134) dX12_plain_133 rfl ?_
    refine ex_getr dX12_plain_134 wf_RX12_156 (ly_a420 hL) rfl (ly_r420_67 hL) ?_
    refine ex_step (pc' := 140) (st' := [.int 288, .ref 466, .int (I 466 (((288 : Int32) * x2) + x4).toNatClampNeg), .int (I 467 (((14 : Int32) * x2) + x3).toNatClampNeg), .int (((14 : Int32) * x2) + x3), .ref 467]) dX12_plain_137 rfl ?_
    refine ex_step (pc' := 141) dX12_plain_140 rfl ?_
    refine ex_step (pc' := 142) dX12_plain_141 rfl ?_
    refine ex_step (pc' := 144) dX12_plain_142 rfl ?_
    refine ex_step (pc' := 145) dX12_plain_144 rfl ?_
    obtain ⟨hv, h⟩ := h
    refine ex_iald dX12_plain_145 (Or.inl (ly_a466 hL)) hv ?_
    refine ex_step (pc' := 147) dX12_plain_146 rfl ?_
    refine ex_step (pc' := 148) dX12_plain_147 rfl ?_
    obtain ⟨hv, h⟩ := h
    refine ex_iastN dX12_plain_148 (ly_a467 hL) hv (fun I1 eI1 => ?_)
    have h := h I1 eI1
    refine ex_step (pc' := 152) (ls' := [some (.ref 420), some (.int x1), some (.int x2), some (.int x3), some (.int (x4 + 1)), none, none, none]) dX12_plain_149 rfl ?_
    refine ex_step (pc' := 100) dX12_plain_152 rfl ?_
    exact h
set_option maxHeartbeats 4000000 in
theorem BX12_plain_174 {d : Nat} {Z : zZ} {I : zI} {J : zJ} {o : zO} {t u : Nat} (x1 : Int32) (x2 : Int32) (x3 : Int32) (x4 : Int32) (hL : zLY Z t u)  (h : (vp_in (I 420 18) 2 ∧ ((((1 : Int32) <<< ((I 431 (I 420 18).toNatClampNeg) &&& 31)) ≤ x4 → ((¬ x1 = 0 → o = (some (.int x2), Z, I, J)) ∧ (x1 = 0 → o = (some (.int x3), Z, I, J)))) ∧ (¬ ((1 : Int32) <<< ((I 431 (I 420 18).toNatClampNeg) &&& 31)) ≤ x4 → zE (d + 4) kX12_plain 196 [some (.ref 420), some (.int x1), some (.int x2), some (.int x3), some (.int x4), some (.int 0), some (.int 0), none] [] Z I J o)))) : zE (d + 4) kX12_plain 174 [some (.ref 420), some (.int x1), some (.int x2), some (.int x3), some (.int x4), none, none, none] [] Z I J o := by
  refine ex_step (pc' := 176) dX12_plain_174 rfl ?_
  refine ex_step (pc' := 177) (st' := [.int 1, .int x4]) dX12_plain_176 rfl ?_
  refine ex_step (pc' := 178) dX12_plain_177 rfl ?_
  refine ex_getr dX12_plain_178 wf_RX12_49 (ly_a420 hL) rfl (ly_r420_24 hL) ?_
  refine ex_step (pc' := 182) dX12_plain_181 rfl ?_
  refine ex_geti dX12_plain_182 wf_RX12_258 (ly_a420 hL) rfl ?_
  obtain ⟨hv, h⟩ := h
  refine ex_iald dX12_plain_185 (Or.inl (ly_a431 hL)) hv ?_
  refine ex_step (pc' := 187) dX12_plain_186 rfl ?_
  refine ex_icmp (pc' := 305) dX12_plain_187 (by decide) (fun c => ?_) (fun c => ?_)
  · have h := h.1 c
    refine ex_step (pc' := 306) dX12_plain_305 rfl ?_
    refine ex_if (pc' := 313) dX12_plain_306 (by decide) (fun c => ?_) (fun c => ?_)
    · have h := h.1 c
      refine ex_step (pc' := 314) dX12_plain_313 rfl ?_
      rw [h]; exact ex_ret (v := some (.int x2)) ⟨dX12_plain_314, _, rfl, rfl⟩
    · have h := h.2 (Classical.not_not.mp c)
      refine ex_step (pc' := 310) dX12_plain_309 rfl ?_
      refine ex_step (pc' := 314) dX12_plain_310 rfl ?_
      rw [h]; exact ex_ret (v := some (.int x3)) ⟨dX12_plain_314, _, rfl, rfl⟩
  · have h := h.2 c
    refine ex_step (pc' := 191) (st' := [.int 0]) dX12_plain_190 rfl ?_
    refine ex_step (pc' := 193) (ls' := [some (.ref 420), some (.int x1), some (.int x2), some (.int x3), some (.int x4), some (.int 0), none, none]) dX12_plain_191 rfl ?_
    refine ex_step (pc' := 194) (st' := [.int 0]) dX12_plain_193 rfl ?_
    refine ex_step (pc' := 196) (ls' := [some (.ref 420), some (.int x1), some (.int x2), some (.int x3), some (.int x4), some (.int 0), some (.int 0), none]) dX12_plain_194 rfl ?_
    exact h
set_option maxHeartbeats 4000000 in
theorem BX12_plain_196 {d : Nat} {Z : zZ} {I : zI} {J : zJ} {o : zO} {t u : Nat} (x1 : Int32) (x2 : Int32) (x3 : Int32) (x4 : Int32) (x5 : Int32) (x6 : Int32) (hL : zLY Z t u)  (h : (vp_in (I 420 18) 2 ∧ (((I 431 (I 420 18).toNatClampNeg) ≤ x6 → ((x3 < 0 → zE (d + 4) kX12_plain 174 [some (.ref 420), some (.int x1), some (.int x4), some (.int x5), some (.int (x4 + 1)), none, none, none] [] Z I J o) ∧ (¬ x3 < 0 → ((x5 < x3 → zE (d + 4) kX12_plain 174 [some (.ref 420), some (.int x1), some (.int x4), some (.int x5), some (.int (x4 + 1)), none, none, none] [] Z I J o) ∧ (¬ x5 < x3 → zE (d + 4) kX12_plain 174 [some (.ref 420), some (.int x1), some (.int x2), some (.int x3), some (.int (x4 + 1)), none, none, none] [] Z I J o))))) ∧ (¬ (I 431 (I 420 18).toNatClampNeg) ≤ x6 → zE (d + 4) kX12_plain 216 [some (.ref 420), some (.int x1), some (.int x2), some (.int x3), some (.int x4), some (.int x5), some (.int x6), some (.int (x6 + 1))] [] Z I J o)))) : zE (d + 4) kX12_plain 196 [some (.ref 420), some (.int x1), some (.int x2), some (.int x3), some (.int x4), some (.int x5), some (.int x6), none] [] Z I J o := by
  refine ex_step (pc' := 198) dX12_plain_196 rfl ?_
  refine ex_step (pc' := 199) dX12_plain_198 rfl ?_
  refine ex_getr dX12_plain_199 wf_RX12_49 (ly_a420 hL) rfl (ly_r420_24 hL) ?_
  refine ex_step (pc' := 203) dX12_plain_202 rfl ?_
  refine ex_geti dX12_plain_203 wf_RX12_258 (ly_a420 hL) rfl ?_
  obtain ⟨hv, h⟩ := h
  refine ex_iald dX12_plain_206 (Or.inl (ly_a431 hL)) hv ?_
  refine ex_icmp (pc' := 280) dX12_plain_207 (by decide) (fun c => ?_) (fun c => ?_)
  · have h := h.1 c
    refine ex_step (pc' := 281) dX12_plain_280 rfl ?_
    refine ex_if (pc' := 293) dX12_plain_281 (by decide) (fun c => ?_) (fun c => ?_)
    · have h := h.1 c
      refine ex_step (pc' := 295) dX12_plain_293 rfl ?_
      refine ex_step (pc' := 296) (ls' := [some (.ref 420), some (.int x1), some (.int x4), some (.int x3), some (.int x4), some (.int x5), some (.int x6), none]) dX12_plain_295 rfl ?_
      refine ex_step (pc' := 298) dX12_plain_296 rfl ?_
      refine ex_step (pc' := 299) (ls' := [some (.ref 420), some (.int x1), some (.int x4), some (.int x5), some (.int x4), some (.int x5), some (.int x6), none]) dX12_plain_298 rfl ?_
      refine ex_step (pc' := 302) (ls' := [some (.ref 420), some (.int x1), some (.int x4), some (.int x5), some (.int (x4 + 1)), some (.int x5), some (.int x6), none]) dX12_plain_299 rfl ?_
      refine ex_step (pc' := 174) dX12_plain_302 rfl ?_
      exact ex_less (ls' := [some (.ref 420), some (.int x1), some (.int x4), some (.int x5), some (.int (x4 + 1)), none, none, none]) ⟨rfl, ⟨rfl, ⟨rfl, ⟨rfl, ⟨rfl, trivial⟩⟩⟩⟩⟩ h
    · have h := h.2 c
      refine ex_step (pc' := 286) dX12_plain_284 rfl ?_
      refine ex_step (pc' := 287) dX12_plain_286 rfl ?_
      refine ex_icmp (pc' := 293) dX12_plain_287 (by decide) (fun c => ?_) (fun c => ?_)
      · have h := h.1 c
        refine ex_step (pc' := 295) dX12_plain_293 rfl ?_
        refine ex_step (pc' := 296) (ls' := [some (.ref 420), some (.int x1), some (.int x4), some (.int x3), some (.int x4), some (.int x5), some (.int x6), none]) dX12_plain_295 rfl ?_
        refine ex_step (pc' := 298) dX12_plain_296 rfl ?_
        refine ex_step (pc' := 299) (ls' := [some (.ref 420), some (.int x1), some (.int x4), some (.int x5), some (.int x4), some (.int x5), some (.int x6), none]) dX12_plain_298 rfl ?_
        refine ex_step (pc' := 302) (ls' := [some (.ref 420), some (.int x1), some (.int x4), some (.int x5), some (.int (x4 + 1)), some (.int x5), some (.int x6), none]) dX12_plain_299 rfl ?_
        refine ex_step (pc' := 174) dX12_plain_302 rfl ?_
        exact ex_less (ls' := [some (.ref 420), some (.int x1), some (.int x4), some (.int x5), some (.int (x4 + 1)), none, none, none]) ⟨rfl, ⟨rfl, ⟨rfl, ⟨rfl, ⟨rfl, trivial⟩⟩⟩⟩⟩ h
      · have h := h.2 c
        refine ex_step (pc' := 299) dX12_plain_290 rfl ?_
        refine ex_step (pc' := 302) (ls' := [some (.ref 420), some (.int x1), some (.int x2), some (.int x3), some (.int (x4 + 1)), some (.int x5), some (.int x6), none]) dX12_plain_299 rfl ?_
        refine ex_step (pc' := 174) dX12_plain_302 rfl ?_
        exact ex_less (ls' := [some (.ref 420), some (.int x1), some (.int x2), some (.int x3), some (.int (x4 + 1)), none, none, none]) ⟨rfl, ⟨rfl, ⟨rfl, ⟨rfl, ⟨rfl, trivial⟩⟩⟩⟩⟩ h
  · have h := h.2 c
    refine ex_step (pc' := 212) dX12_plain_210 rfl ?_
    refine ex_step (pc' := 213) (st' := [.int 1, .int x6]) dX12_plain_212 rfl ?_
    refine ex_step (pc' := 214) dX12_plain_213 rfl ?_
    refine ex_step (pc' := 216) (ls' := [some (.ref 420), some (.int x1), some (.int x2), some (.int x3), some (.int x4), some (.int x5), some (.int x6), some (.int (x6 + 1))]) dX12_plain_214 rfl ?_
    exact h
set_option maxHeartbeats 4000000 in
theorem BX12_plain_216 {d : Nat} {Z : zZ} {I : zI} {J : zJ} {o : zO} {t u : Nat} (x1 : Int32) (x2 : Int32) (x3 : Int32) (x4 : Int32) (x5 : Int32) (x6 : Int32) (x7 : Int32) (hL : zLY Z t u)  (h : (vp_in (I 420 18) 2 ∧ (((I 431 (I 420 18).toNatClampNeg) ≤ x7 → zE (d + 4) kX12_plain 196 [some (.ref 420), some (.int x1), some (.int x2), some (.int x3), some (.int x4), some (.int x5), some (.int (x6 + 1)), none] [] Z I J o) ∧ (¬ (I 431 (I 420 18).toNatClampNeg) ≤ x7 → (vp_in ((((14 : Int32) * (((2 : Int32) * x6) + ((x4 >>> (x6 &&& 31)) &&& 1))) + ((2 : Int32) * x7)) + ((x4 >>> (x7 &&& 31)) &&& 1)) 196 ∧ (∀ y1 : Int32, y1 = (x5 + (I 467 ((((14 : Int32) * (((2 : Int32) * x6) + ((x4 >>> (x6 &&& 31)) &&& 1))) + ((2 : Int32) * x7)) + ((x4 >>> (x7 &&& 31)) &&& 1)).toNatClampNeg)) → zE (d + 4) kX12_plain 216 [some (.ref 420), some (.int x1), some (.int x2), some (.int x3), some (.int x4), some (.int y1), some (.int x6), some (.int (x7 + 1))] [] Z I J o)))))) : zE (d + 4) kX12_plain 216 [some (.ref 420), some (.int x1), some (.int x2), some (.int x3), some (.int x4), some (.int x5), some (.int x6), some (.int x7)] [] Z I J o := by
  refine ex_step (pc' := 218) dX12_plain_216 rfl ?_
  refine ex_step (pc' := 219) dX12_plain_218 rfl ?_
  refine ex_getr dX12_plain_219 wf_RX12_49 (ly_a420 hL) rfl (ly_r420_24 hL) ?_
  refine ex_step (pc' := 223) dX12_plain_222 rfl ?_
  refine ex_geti dX12_plain_223 wf_RX12_258 (ly_a420 hL) rfl ?_
  obtain ⟨hv, h⟩ := h
  refine ex_iald dX12_plain_226 (Or.inl (ly_a431 hL)) hv ?_
  refine ex_icmp (pc' := 274) dX12_plain_227 (by decide) (fun c => ?_) (fun c => ?_)
  · have h := h.1 c
    refine ex_step (pc' := 277) (ls' := [some (.ref 420), some (.int x1), some (.int x2), some (.int x3), some (.int x4), some (.int x5), some (.int (x6 + 1)), some (.int x7)]) dX12_plain_274 rfl ?_
    refine ex_step (pc' := 196) dX12_plain_277 rfl ?_
    exact ex_less (ls' := [some (.ref 420), some (.int x1), some (.int x2), some (.int x3), some (.int x4), some (.int x5), some (.int (x6 + 1)), none]) ⟨rfl, ⟨rfl, ⟨rfl, ⟨rfl, ⟨rfl, ⟨rfl, ⟨rfl, trivial⟩⟩⟩⟩⟩⟩⟩ h
  · have h := h.2 c
    refine ex_step (pc' := 232) dX12_plain_230 rfl ?_
    refine ex_step (pc' := 233) dX12_plain_232 rfl ?_
    refine ex_getr dX12_plain_233 wf_RX12_159 (ly_a420 hL) rfl (ly_r420_68 hL) ?_
    refine ex_step (pc' := 238) (st' := [.int 14, .ref 467, .int x5]) dX12_plain_236 rfl ?_
    refine ex_step (pc' := 239) (st' := [.int 2, .int 14, .ref 467, .int x5]) dX12_plain_238 rfl ?_
    refine ex_step (pc' := 241) dX12_plain_239 rfl ?_
    refine ex_step (pc' := 242) dX12_plain_241 rfl ?_
    refine ex_step (pc' := 244) dX12_plain_242 rfl ?_
    refine ex_step (pc' := 246) dX12_plain_244 rfl ?_
    refine ex_step (pc' := 247) dX12_plain_246 rfl ?_
    refine ex_step (pc' := 248) (st' := [.int 1, .int (x4 >>> (x6 &&& 31)), .int ((2 : Int32) * x6), .int 14, .ref 467, .int x5]) dX12_plain_247 rfl ?_
    refine ex_step (pc' := 249) dX12_plain_248 rfl ?_
    refine ex_step (pc' := 250) dX12_plain_249 rfl ?_
    refine ex_step (pc' := 251) dX12_plain_250 rfl ?_
    refine ex_step (pc' := 252) (st' := [.int 2, .int ((14 : Int32) * (((2 : Int32) * x6) + ((x4 >>> (x6 &&& 31)) &&& 1))), .ref 467, .int x5]) dX12_plain_251 rfl ?_
    refine ex_step (pc' := 254) dX12_plain_252 rfl ?_
    refine ex_step (pc' := 255) dX12_plain_254 rfl ?_
    refine ex_step (pc' := 256) dX12_plain_255 rfl ?_
    refine ex_step (pc' := 258) dX12_plain_256 rfl ?_
    refine ex_step (pc' := 260) dX12_plain_258 rfl ?_
    refine ex_step (pc' := 261) dX12_plain_260 rfl ?_
    refine ex_step (pc' := 262) (st' := [.int 1, .int (x4 >>> (x7 &&& 31)), .int (((14 : Int32) * (((2 : Int32) * x6) + ((x4 >>> (x6 &&& 31)) &&& 1))) + ((2 : Int32) * x7)), .ref 467, .int x5]) dX12_plain_261 rfl ?_
    refine ex_step (pc' := 263) dX12_plain_262 rfl ?_
    refine ex_step (pc' := 264) dX12_plain_263 rfl ?_
    obtain ⟨hv, h⟩ := h
    refine ex_iald dX12_plain_264 (Or.inl (ly_a467 hL)) hv ?_
    refine ex_step (pc' := 266) dX12_plain_265 rfl ?_
    refine ex_topi (fun y1 ey1 => ?_)
    have h := h y1 ey1
    refine ex_step (pc' := 268) (ls' := [some (.ref 420), some (.int x1), some (.int x2), some (.int x3), some (.int x4), some (.int y1), some (.int x6), some (.int x7)]) dX12_plain_266 rfl ?_
    refine ex_step (pc' := 271) (ls' := [some (.ref 420), some (.int x1), some (.int x2), some (.int x3), some (.int x4), some (.int y1), some (.int x6), some (.int (x7 + 1))]) dX12_plain_268 rfl ?_
    refine ex_step (pc' := 216) dX12_plain_271 rfl ?_
    exact h
set_option maxHeartbeats 4000000 in
theorem BX12_tell_0 {d : Nat} {Z : zZ} {I : zI} {J : zJ} {o : zO} {t u : Nat} (x1 : Int32) (x2 : Int32) (x3 : Int32) (hL : zLY Z t u)  (h : (((I 420 69) = 12 → o = (some (.int (-1)), Z, I, J)) ∧ (¬ (I 420 69) = 12 → (∃ (v1 : Int32), zE (d + 2) kX12_areTwo 0 [some (.ref 420), some (.int x1), some (.int x2)] [] Z I J (some (.int v1), Z, I, J) ∧ ((¬ v1 = 0 → (vp_in (I 420 69) 12 ∧ (∀ I2 : zI, I2 = zu I 468 (I 420 69).toNatClampNeg x1 → (vp_in (I2 420 69) 12 ∧ (∀ I3 : zI, I3 = zu I2 469 (I2 420 69).toNatClampNeg x2 → (vp_in (I3 420 69) 12 ∧ (∀ I4 : zI, I4 = zu I3 470 (I3 420 69).toNatClampNeg (vp_nar .boolean x3) → (∀ I5 : zI, I5 = zu I4 420 69 ((I4 420 69) + 1) → o = (some (.int ((I5 420 69) - 1)), Z, I5, J))))))))) ∧ (v1 = 0 → o = (some (.int (-1)), Z, I, J))))))) : zE (d + 3) kX12_tell 0 [some (.ref 420), some (.int x1), some (.int x2), some (.int x3)] [] Z I J o := by
  refine ex_step (pc' := 1) dX12_tell_0 rfl ?_
  refine ex_geti dX12_tell_1 wf_RX12_286 (ly_a420 hL) rfl ?_
  refine ex_step (pc' := 6) (st' := [.int 12, .int (I 420 69)]) dX12_tell_4 rfl ?_
  refine ex_icmp (pc' := 18) dX12_tell_6 (by decide) (fun c => ?_) (fun c => ?_)
  · have h := h.1 c
    refine ex_step (pc' := 19) (st' := [.int (-1)]) dX12_tell_18 rfl ?_
    rw [h]; exact ex_ret (v := some (.int (-1))) ⟨dX12_tell_19, _, rfl, rfl⟩
  · have h := h.2 c
    refine ex_step (pc' := 10) dX12_tell_9 rfl ?_
    refine ex_step (pc' := 11) dX12_tell_10 rfl ?_
    refine ex_step (pc' := 12) dX12_tell_11 rfl ?_
    obtain ⟨v1, hc, h⟩ := h
    refine ex_callV (as := [.int x1, .int x2]) (st := []) (ci := 12) dX12_tell_12 zmX12_areTwo zl_RX12_413 ziX12_areTwo zvX12_areTwo (by decide) (ly_a420 hL) rfl (Nat.le_of_ble_eq_true rfl) (Nat.le_of_ble_eq_true rfl) hc ?_
    refine ex_if (pc' := 20) dX12_tell_15 (by decide) (fun c => ?_) (fun c => ?_)
    · have h := h.1 c
      refine ex_step (pc' := 21) dX12_tell_20 rfl ?_
      refine ex_getr dX12_tell_21 wf_RX12_162 (ly_a420 hL) rfl (ly_r420_70 hL) ?_
      refine ex_step (pc' := 25) dX12_tell_24 rfl ?_
      refine ex_geti dX12_tell_25 wf_RX12_286 (ly_a420 hL) rfl ?_
      refine ex_step (pc' := 29) dX12_tell_28 rfl ?_
      obtain ⟨hv, h⟩ := h
      refine ex_iastN dX12_tell_29 (ly_a468 hL) hv (fun I2 eI2 => ?_)
      have h := h I2 eI2
      refine ex_step (pc' := 31) dX12_tell_30 rfl ?_
      refine ex_getr dX12_tell_31 wf_RX12_165 (ly_a420 hL) rfl (ly_r420_71 hL) ?_
      refine ex_step (pc' := 35) dX12_tell_34 rfl ?_
      refine ex_geti dX12_tell_35 wf_RX12_286 (ly_a420 hL) rfl ?_
      refine ex_step (pc' := 39) dX12_tell_38 rfl ?_
      obtain ⟨hv, h⟩ := h
      refine ex_iastN dX12_tell_39 (ly_a469 hL) hv (fun I3 eI3 => ?_)
      have h := h I3 eI3
      refine ex_step (pc' := 41) dX12_tell_40 rfl ?_
      refine ex_getr dX12_tell_41 wf_RX12_168 (ly_a420 hL) rfl (ly_r420_72 hL) ?_
      refine ex_step (pc' := 45) dX12_tell_44 rfl ?_
      refine ex_geti dX12_tell_45 wf_RX12_286 (ly_a420 hL) rfl ?_
      refine ex_step (pc' := 49) dX12_tell_48 rfl ?_
      obtain ⟨hv, h⟩ := h
      refine ex_zastN dX12_tell_49 (ly_a470 hL) hv (fun I4 eI4 => ?_)
      have h := h I4 eI4
      refine ex_step (pc' := 51) dX12_tell_50 rfl ?_
      refine ex_step (pc' := 52) dX12_tell_51 rfl ?_
      refine ex_geti dX12_tell_52 wf_RX12_286 (ly_a420 hL) rfl ?_
      refine ex_step (pc' := 56) (st' := [.int 1, .int (I4 420 69), .ref 420]) dX12_tell_55 rfl ?_
      refine ex_step (pc' := 57) dX12_tell_56 rfl ?_
      refine ex_putiN dX12_tell_57 (wp_RX12_286 _) (ly_a420 hL) rfl ⟨rfl, rfl⟩ (fun I5 eI5 => ?_)
      have h := h I5 eI5
      refine ex_step (pc' := 61) dX12_tell_60 rfl ?_
      refine ex_geti dX12_tell_61 wf_RX12_286 (ly_a420 hL) rfl ?_
      refine ex_step (pc' := 65) (st' := [.int 1, .int (I5 420 69)]) dX12_tell_64 rfl ?_
      refine ex_step (pc' := 66) dX12_tell_65 rfl ?_
      rw [h]; exact ex_ret (v := some (.int ((I5 420 69) - 1))) ⟨dX12_tell_66, _, rfl, rfl⟩
    · have h := h.2 (Classical.not_not.mp c)
      refine ex_step (pc' := 19) (st' := [.int (-1)]) dX12_tell_18 rfl ?_
      rw [h]; exact ex_ret (v := some (.int (-1))) ⟨dX12_tell_19, _, rfl, rfl⟩
set_option maxHeartbeats 4000000 in
theorem BX12_forget_0 {d : Nat} {Z : zZ} {I : zI} {J : zJ} {o : zO} {t u : Nat}  (hL : zLY Z t u)  (h : (∀ I1 : zI, I1 = zu I 420 69 0 → o = (some (.int (I 420 69)), Z, I1, J))) : zE d kX12_forget 0 [some (.ref 420), none] [] Z I J o := by
  refine ex_step (pc' := 1) dX12_forget_0 rfl ?_
  refine ex_geti dX12_forget_1 wf_RX12_286 (ly_a420 hL) rfl ?_
  refine ex_step (pc' := 5) (ls' := [some (.ref 420), some (.int (I 420 69))]) dX12_forget_4 rfl ?_
  refine ex_step (pc' := 6) dX12_forget_5 rfl ?_
  refine ex_step (pc' := 7) (st' := [.int 0, .ref 420]) dX12_forget_6 rfl ?_
  refine ex_putiN dX12_forget_7 (wp_RX12_286 _) (ly_a420 hL) rfl ⟨rfl, rfl⟩ (fun I1 eI1 => ?_)
  have h := h I1 eI1
  refine ex_step (pc' := 11) dX12_forget_10 rfl ?_
  rw [h]; exact ex_ret (v := some (.int (I 420 69))) ⟨dX12_forget_11, _, rfl, rfl⟩
set_option maxHeartbeats 4000000 in
theorem BX12_isSo_0 {d : Nat} {Z : zZ} {I : zI} {J : zJ} {o : zO} {t u : Nat} (x1 : Int32) (x2 : Int32) (x3 : Int32) (x4 : Int32) (hL : zLY Z t u)  (h : (∃ (I1 : zI), zE (d + 5) kX12_begins 0 [some (.ref 420), none] [] Z I J (none, Z, I1, J) ∧ zE (d + 6) kX12_isSo 10 [some (.ref 420), none, some (.int x2), some (.int x3), some (.int x4), some (.int x1), some (.int 0)] [] Z I1 J o)) : zE (d + 6) kX12_isSo 0 [some (.ref 420), some (.int x1), some (.int x2), some (.int x3), some (.int x4), none, none] [] Z I J o := by
  refine ex_step (pc' := 1) dX12_isSo_0 rfl ?_
  obtain ⟨I1, hc, h⟩ := h
  refine ex_callV (as := []) (st := []) (ci := 12) dX12_isSo_1 zmX12_begins zl_RX12_185 ziX12_begins zvX12_begins (by decide) (ly_a420 hL) rfl (Nat.le_of_ble_eq_true rfl) (Nat.le_of_ble_eq_true rfl) hc ?_
  refine ex_step (pc' := 5) dX12_isSo_4 rfl ?_
  refine ex_step (pc' := 7) (ls' := [some (.ref 420), some (.int x1), some (.int x2), some (.int x3), some (.int x4), some (.int x1), none]) dX12_isSo_5 rfl ?_
  refine ex_step (pc' := 8) (st' := [.int 0]) dX12_isSo_7 rfl ?_
  refine ex_step (pc' := 10) (ls' := [some (.ref 420), some (.int x1), some (.int x2), some (.int x3), some (.int x4), some (.int x1), some (.int 0)]) dX12_isSo_8 rfl ?_
  exact ex_less (ls' := [some (.ref 420), none, some (.int x2), some (.int x3), some (.int x4), some (.int x1), some (.int 0)]) ⟨rfl, ⟨rfl, ⟨rfl, ⟨rfl, ⟨rfl, ⟨rfl, trivial⟩⟩⟩⟩⟩⟩ h
set_option maxHeartbeats 4000000 in
theorem BX12_isSo_10 {d : Nat} {Z : zZ} {I : zI} {J : zJ} {o : zO} {t u : Nat} (x2 : Int32) (x3 : Int32) (x4 : Int32) (x5 : Int32) (x6 : Int32) (hL : zLY Z t u)  (h : (vp_in (I 420 18) 2 ∧ (((I 431 (I 420 18).toNatClampNeg) ≤ x6 → zE (d + 6) kX12_isSo 54 [some (.ref 420), none, none, some (.int x3), some (.int x4), none, some (.int 0)] [] Z I J o) ∧ (¬ (I 431 (I 420 18).toNatClampNeg) ≤ x6 → (¬ (x2 + 1) = 0 ∧ (vp_in x6 7 ∧ (∀ I1 : zI, I1 = zu I 459 x6.toNatClampNeg (x5 - x5 / (x2 + 1) * (x2 + 1)) → (¬ (x2 + 1) = 0 ∧ zE (d + 6) kX12_isSo 10 [some (.ref 420), none, some (.int x2), some (.int x3), some (.int x4), some (.int (x5 / (x2 + 1))), some (.int (x6 + 1))] [] Z I1 J o)))))))) : zE (d + 6) kX12_isSo 10 [some (.ref 420), none, some (.int x2), some (.int x3), some (.int x4), some (.int x5), some (.int x6)] [] Z I J o := by
  refine ex_step (pc' := 12) dX12_isSo_10 rfl ?_
  refine ex_step (pc' := 13) dX12_isSo_12 rfl ?_
  refine ex_getr dX12_isSo_13 wf_RX12_49 (ly_a420 hL) rfl (ly_r420_24 hL) ?_
  refine ex_step (pc' := 17) dX12_isSo_16 rfl ?_
  refine ex_geti dX12_isSo_17 wf_RX12_258 (ly_a420 hL) rfl ?_
  obtain ⟨hv, h⟩ := h
  refine ex_iald dX12_isSo_20 (Or.inl (ly_a431 hL)) hv ?_
  refine ex_icmp (pc' := 51) dX12_isSo_21 (by decide) (fun c => ?_) (fun c => ?_)
  · have h := h.1 c
    refine ex_step (pc' := 52) (st' := [.int 0]) dX12_isSo_51 rfl ?_
    refine ex_step (pc' := 54) (ls' := [some (.ref 420), none, some (.int x2), some (.int x3), some (.int x4), some (.int x5), some (.int 0)]) dX12_isSo_52 rfl ?_
    exact ex_less (ls' := [some (.ref 420), none, none, some (.int x3), some (.int x4), none, some (.int 0)]) ⟨rfl, ⟨rfl, ⟨rfl, ⟨rfl, trivial⟩⟩⟩⟩ h
  · have h := h.2 c
    refine ex_step (pc' := 25) dX12_isSo_24 rfl ?_
    refine ex_getr dX12_isSo_25 wf_RX12_134 (ly_a420 hL) rfl (ly_r420_57 hL) ?_
    refine ex_step (pc' := 30) dX12_isSo_28 rfl ?_
    refine ex_step (pc' := 32) dX12_isSo_30 rfl ?_
    refine ex_step (pc' := 33) dX12_isSo_32 rfl ?_
    refine ex_step (pc' := 34) (st' := [.int 1, .int x2, .int x5, .int x6, .ref 459]) dX12_isSo_33 rfl ?_
    refine ex_step (pc' := 35) dX12_isSo_34 rfl ?_
    obtain ⟨hz, h⟩ := h
    refine ex_rem dX12_isSo_35 hz ?_
    obtain ⟨hv, h⟩ := h
    refine ex_iastN dX12_isSo_36 (ly_a459 hL) hv (fun I1 eI1 => ?_)
    have h := h I1 eI1
    refine ex_step (pc' := 39) dX12_isSo_37 rfl ?_
    refine ex_step (pc' := 40) dX12_isSo_39 rfl ?_
    refine ex_step (pc' := 41) (st' := [.int 1, .int x2, .int x5]) dX12_isSo_40 rfl ?_
    refine ex_step (pc' := 42) dX12_isSo_41 rfl ?_
    obtain ⟨hz, h⟩ := h
    refine ex_div dX12_isSo_42 hz ?_
    refine ex_step (pc' := 45) (ls' := [some (.ref 420), none, some (.int x2), some (.int x3), some (.int x4), some (.int (x5 / (x2 + 1))), some (.int x6)]) dX12_isSo_43 rfl ?_
    refine ex_step (pc' := 48) (ls' := [some (.ref 420), none, some (.int x2), some (.int x3), some (.int x4), some (.int (x5 / (x2 + 1))), some (.int (x6 + 1))]) dX12_isSo_45 rfl ?_
    refine ex_step (pc' := 10) dX12_isSo_48 rfl ?_
    exact h
set_option maxHeartbeats 4000000 in
theorem BX12_isSo_54 {d : Nat} {Z : zZ} {I : zI} {J : zJ} {o : zO} {t u : Nat} (x3 : Int32) (x4 : Int32) (x6 : Int32) (hL : zLY Z t u)  (h : ((x3 ≤ x6 → zE (d + 6) kX12_isSo 73 [some (.ref 420), none, none, none, some (.int x4), none, some (.int 0)] [] Z I J o) ∧ (¬ x3 ≤ x6 → (∃ (I1 : zI), zE (d + 5) kX12_minuteGoes 0 [some (.ref 420), none, none] [] Z I J (none, Z, I1, J) ∧ zE (d + 6) kX12_isSo 54 [some (.ref 420), none, none, some (.int x3), some (.int x4), none, some (.int (x6 + 1))] [] Z I1 J o)))) : zE (d + 6) kX12_isSo 54 [some (.ref 420), none, none, some (.int x3), some (.int x4), none, some (.int x6)] [] Z I J o := by
  refine ex_step (pc' := 56) dX12_isSo_54 rfl ?_
  refine ex_step (pc' := 57) dX12_isSo_56 rfl ?_
  refine ex_icmp (pc' := 70) dX12_isSo_57 (by decide) (fun c => ?_) (fun c => ?_)
  · have h := h.1 c
    refine ex_step (pc' := 71) (st' := [.int 0]) dX12_isSo_70 rfl ?_
    refine ex_step (pc' := 73) (ls' := [some (.ref 420), none, none, some (.int x3), some (.int x4), none, some (.int 0)]) dX12_isSo_71 rfl ?_
    exact ex_less (ls' := [some (.ref 420), none, none, none, some (.int x4), none, some (.int 0)]) ⟨rfl, ⟨rfl, ⟨rfl, trivial⟩⟩⟩ h
  · have h := h.2 c
    refine ex_step (pc' := 61) dX12_isSo_60 rfl ?_
    obtain ⟨I1, hc, h⟩ := h
    refine ex_callV (as := []) (st := []) (ci := 12) dX12_isSo_61 zmX12_minuteGoes zl_RX12_407 ziX12_minuteGoes zvX12_minuteGoes (by decide) (ly_a420 hL) rfl (Nat.le_of_ble_eq_true rfl) (Nat.le_of_ble_eq_true rfl) hc ?_
    refine ex_step (pc' := 67) (ls' := [some (.ref 420), none, none, some (.int x3), some (.int x4), none, some (.int (x6 + 1))]) dX12_isSo_64 rfl ?_
    refine ex_step (pc' := 54) dX12_isSo_67 rfl ?_
    exact h
set_option maxHeartbeats 4000000 in
theorem BX12_isSo_73 {d : Nat} {Z : zZ} {I : zI} {J : zJ} {o : zO} {t u : Nat} (x4 : Int32) (x6 : Int32) (hL : zLY Z t u)  (h : ((x4 ≤ x6 → o = (some (.int 1), Z, I, J)) ∧ (¬ x4 ≤ x6 → (vp_in x6 12 ∧ (vp_in x6 12 ∧ (∃ (v1 : Int32), zE (d + 5) kX12_overOf 0 [some (.ref 420), some (.int (I 468 x6.toNatClampNeg)), some (.int (I 469 x6.toNatClampNeg)), none, none, none, none, none] [] Z I J (some (.int v1), Z, I, J) ∧ ((v1 ≤ 0 → (vp_in x6 12 ∧ (((0 : Int32) = (I 470 x6.toNatClampNeg) → zE (d + 6) kX12_isSo 73 [some (.ref 420), none, none, none, some (.int x4), none, some (.int (x6 + 1))] [] Z I J o) ∧ (¬ (0 : Int32) = (I 470 x6.toNatClampNeg) → o = (some (.int 0), Z, I, J))))) ∧ (¬ v1 ≤ 0 → (vp_in x6 12 ∧ (((1 : Int32) = (I 470 x6.toNatClampNeg) → zE (d + 6) kX12_isSo 73 [some (.ref 420), none, none, none, some (.int x4), none, some (.int (x6 + 1))] [] Z I J o) ∧ (¬ (1 : Int32) = (I 470 x6.toNatClampNeg) → o = (some (.int 0), Z, I, J)))))))))))) : zE (d + 6) kX12_isSo 73 [some (.ref 420), none, none, none, some (.int x4), none, some (.int x6)] [] Z I J o := by
  refine ex_step (pc' := 75) dX12_isSo_73 rfl ?_
  refine ex_step (pc' := 77) dX12_isSo_75 rfl ?_
  refine ex_icmp (pc' := 124) dX12_isSo_77 (by decide) (fun c => ?_) (fun c => ?_)
  · have h := h.1 c
    refine ex_step (pc' := 125) (st' := [.int 1]) dX12_isSo_124 rfl ?_
    rw [h]; exact ex_ret (v := some (.int 1)) ⟨dX12_isSo_125, _, rfl, rfl⟩
  · have h := h.2 c
    refine ex_step (pc' := 81) dX12_isSo_80 rfl ?_
    refine ex_step (pc' := 82) dX12_isSo_81 rfl ?_
    refine ex_getr dX12_isSo_82 wf_RX12_162 (ly_a420 hL) rfl (ly_r420_70 hL) ?_
    refine ex_step (pc' := 87) dX12_isSo_85 rfl ?_
    obtain ⟨hv, h⟩ := h
    refine ex_iald dX12_isSo_87 (Or.inl (ly_a468 hL)) hv ?_
    refine ex_step (pc' := 89) dX12_isSo_88 rfl ?_
    refine ex_getr dX12_isSo_89 wf_RX12_165 (ly_a420 hL) rfl (ly_r420_71 hL) ?_
    refine ex_step (pc' := 94) dX12_isSo_92 rfl ?_
    obtain ⟨hv, h⟩ := h
    refine ex_iald dX12_isSo_94 (Or.inl (ly_a469 hL)) hv ?_
    obtain ⟨v1, hc, h⟩ := h
    refine ex_callV (as := [.int (I 468 x6.toNatClampNeg), .int (I 469 x6.toNatClampNeg)]) (st := []) (ci := 12) dX12_isSo_95 zmX12_overOf zl_RX12_410 ziX12_overOf zvX12_overOf (by decide) (ly_a420 hL) rfl (Nat.le_of_ble_eq_true rfl) (Nat.le_of_ble_eq_true rfl) hc ?_
    refine ex_if (pc' := 105) dX12_isSo_98 (by decide) (fun c => ?_) (fun c => ?_)
    · have h := h.1 c
      refine ex_step (pc' := 106) (st' := [.int 0]) dX12_isSo_105 rfl ?_
      refine ex_step (pc' := 107) dX12_isSo_106 rfl ?_
      refine ex_getr dX12_isSo_107 wf_RX12_168 (ly_a420 hL) rfl (ly_r420_72 hL) ?_
      refine ex_step (pc' := 112) dX12_isSo_110 rfl ?_
      obtain ⟨hv, h⟩ := h
      refine ex_bald dX12_isSo_112 (Or.inr (ly_a470 hL)) hv ?_
      refine ex_icmp (pc' := 118) dX12_isSo_113 (by decide) (fun c => ?_) (fun c => ?_)
      · have h := h.1 c
        refine ex_step (pc' := 121) (ls' := [some (.ref 420), none, none, none, some (.int x4), none, some (.int (x6 + 1))]) dX12_isSo_118 rfl ?_
        refine ex_step (pc' := 73) dX12_isSo_121 rfl ?_
        exact h
      · have h := h.2 c
        refine ex_step (pc' := 117) (st' := [.int 0]) dX12_isSo_116 rfl ?_
        rw [h]; exact ex_ret (v := some (.int 0)) ⟨dX12_isSo_117, _, rfl, rfl⟩
    · have h := h.2 c
      refine ex_step (pc' := 102) (st' := [.int 1]) dX12_isSo_101 rfl ?_
      refine ex_step (pc' := 106) dX12_isSo_102 rfl ?_
      refine ex_step (pc' := 107) dX12_isSo_106 rfl ?_
      refine ex_getr dX12_isSo_107 wf_RX12_168 (ly_a420 hL) rfl (ly_r420_72 hL) ?_
      refine ex_step (pc' := 112) dX12_isSo_110 rfl ?_
      obtain ⟨hv, h⟩ := h
      refine ex_bald dX12_isSo_112 (Or.inr (ly_a470 hL)) hv ?_
      refine ex_icmp (pc' := 118) dX12_isSo_113 (by decide) (fun c => ?_) (fun c => ?_)
      · have h := h.1 c
        refine ex_step (pc' := 121) (ls' := [some (.ref 420), none, none, none, some (.int x4), none, some (.int (x6 + 1))]) dX12_isSo_118 rfl ?_
        refine ex_step (pc' := 73) dX12_isSo_121 rfl ?_
        exact h
      · have h := h.2 c
        refine ex_step (pc' := 117) (st' := [.int 0]) dX12_isSo_116 rfl ?_
        rw [h]; exact ex_ret (v := some (.int 0)) ⟨dX12_isSo_117, _, rfl, rfl⟩
set_option maxHeartbeats 4000000 in
theorem BX12_starts_0 {d : Nat} {Z : zZ} {I : zI} {J : zJ} {o : zO} {t u : Nat} (x1 : Int32) (x2 : Int32) (x3 : Int32) (hL : zLY Z t u)  (h : (((zbi (0 ≤ x1 ∧ x1 ≤ 3)) = 0 → o = (some (.int (-1)), Z, I, J)) ∧ (¬ (zbi (0 ≤ x1 ∧ x1 ≤ 3)) = 0 → (((zbi (0 ≤ x2 ∧ x2 ≤ 40)) = 0 → o = (some (.int (-1)), Z, I, J)) ∧ (¬ (zbi (0 ≤ x2 ∧ x2 ≤ 40)) = 0 → ((¬ (zbi (0 ≤ x3 ∧ x3 ≤ (I 420 69))) = 0 → zE (d + 7) kX12_starts 39 [some (.ref 420), some (.int x1), some (.int x2), some (.int x3), some (.int 1), some (.int 0), none] [] Z I J o) ∧ ((zbi (0 ≤ x3 ∧ x3 ≤ (I 420 69))) = 0 → o = (some (.int (-1)), Z, I, J)))))))) : zE (d + 7) kX12_starts 0 [some (.ref 420), some (.int x1), some (.int x2), some (.int x3), none, none, none] [] Z I J o := by
  refine ex_step (pc' := 1) dX12_starts_0 rfl ?_
  refine ex_step (pc' := 2) (st' := [.int 0, .int x1]) dX12_starts_1 rfl ?_
  refine ex_step (pc' := 3) (st' := [.int 3, .int 0, .int x1]) dX12_starts_2 rfl ?_
  refine ex_callS (as := [.int x1, .int 0, .int 3]) (st := []) dX12_starts_3 zmX12_in zl_RX12_345 zsX12_in rfl (Nat.le_of_ble_eq_true rfl) (Nat.le_of_ble_eq_true rfl) M_in ?_
  refine ex_if (pc' := 31) dX12_starts_6 (by decide) (fun c => ?_) (fun c => ?_)
  · have h := h.1 c
    refine ex_step (pc' := 32) (st' := [.int (-1)]) dX12_starts_31 rfl ?_
    rw [h]; exact ex_ret (v := some (.int (-1))) ⟨dX12_starts_32, _, rfl, rfl⟩
  · have h := h.2 c
    refine ex_step (pc' := 10) dX12_starts_9 rfl ?_
    refine ex_step (pc' := 11) (st' := [.int 0, .int x2]) dX12_starts_10 rfl ?_
    refine ex_step (pc' := 13) (st' := [.int 40, .int 0, .int x2]) dX12_starts_11 rfl ?_
    refine ex_callS (as := [.int x2, .int 0, .int 40]) (st := []) dX12_starts_13 zmX12_in zl_RX12_345 zsX12_in rfl (Nat.le_of_ble_eq_true rfl) (Nat.le_of_ble_eq_true rfl) M_in ?_
    refine ex_if (pc' := 31) dX12_starts_16 (by decide) (fun c => ?_) (fun c => ?_)
    · have h := h.1 c
      refine ex_step (pc' := 32) (st' := [.int (-1)]) dX12_starts_31 rfl ?_
      rw [h]; exact ex_ret (v := some (.int (-1))) ⟨dX12_starts_32, _, rfl, rfl⟩
    · have h := h.2 c
      refine ex_step (pc' := 20) dX12_starts_19 rfl ?_
      refine ex_step (pc' := 21) (st' := [.int 0, .int x3]) dX12_starts_20 rfl ?_
      refine ex_step (pc' := 22) dX12_starts_21 rfl ?_
      refine ex_geti dX12_starts_22 wf_RX12_286 (ly_a420 hL) rfl ?_
      refine ex_callS (as := [.int x3, .int 0, .int (I 420 69)]) (st := []) dX12_starts_25 zmX12_in zl_RX12_345 zsX12_in rfl (Nat.le_of_ble_eq_true rfl) (Nat.le_of_ble_eq_true rfl) M_in ?_
      refine ex_if (pc' := 33) dX12_starts_28 (by decide) (fun c => ?_) (fun c => ?_)
      · have h := h.1 c
        refine ex_step (pc' := 34) (st' := [.int 1]) dX12_starts_33 rfl ?_
        refine ex_step (pc' := 36) (ls' := [some (.ref 420), some (.int x1), some (.int x2), some (.int x3), some (.int 1), none, none]) dX12_starts_34 rfl ?_
        refine ex_step (pc' := 37) (st' := [.int 0]) dX12_starts_36 rfl ?_
        refine ex_step (pc' := 39) (ls' := [some (.ref 420), some (.int x1), some (.int x2), some (.int x3), some (.int 1), some (.int 0), none]) dX12_starts_37 rfl ?_
        exact h
      · have h := h.2 (Classical.not_not.mp c)
        refine ex_step (pc' := 32) (st' := [.int (-1)]) dX12_starts_31 rfl ?_
        rw [h]; exact ex_ret (v := some (.int (-1))) ⟨dX12_starts_32, _, rfl, rfl⟩
set_option maxHeartbeats 4000000 in
theorem BX12_starts_39 {d : Nat} {Z : zZ} {I : zI} {J : zJ} {o : zO} {t u : Nat} (x1 : Int32) (x2 : Int32) (x3 : Int32) (x4 : Int32) (x5 : Int32) (hL : zLY Z t u)  (h : (vp_in (I 420 18) 2 ∧ (((I 431 (I 420 18).toNatClampNeg) ≤ x5 → ((x4 ≤ 1000 → zE (d + 7) kX12_starts 84 [some (.ref 420), some (.int x1), some (.int x2), some (.int x3), some (.int x4), some (.int 0), some (.int 0)] [] Z I J o) ∧ (¬ x4 ≤ 1000 → o = (some (.int (-2)), Z, I, J)))) ∧ (¬ (I 431 (I 420 18).toNatClampNeg) ≤ x5 → zE (d + 7) kX12_starts 39 [some (.ref 420), some (.int x1), some (.int x2), some (.int x3), some (.int (x4 * (x1 + 1))), some (.int (x5 + 1)), none] [] Z I J o)))) : zE (d + 7) kX12_starts 39 [some (.ref 420), some (.int x1), some (.int x2), some (.int x3), some (.int x4), some (.int x5), none] [] Z I J o := by
  refine ex_step (pc' := 41) dX12_starts_39 rfl ?_
  refine ex_step (pc' := 42) dX12_starts_41 rfl ?_
  refine ex_getr dX12_starts_42 wf_RX12_49 (ly_a420 hL) rfl (ly_r420_24 hL) ?_
  refine ex_step (pc' := 46) dX12_starts_45 rfl ?_
  refine ex_geti dX12_starts_46 wf_RX12_258 (ly_a420 hL) rfl ?_
  obtain ⟨hv, h⟩ := h
  refine ex_iald dX12_starts_49 (Or.inl (ly_a431 hL)) hv ?_
  refine ex_icmp (pc' := 67) dX12_starts_50 (by decide) (fun c => ?_) (fun c => ?_)
  · have h := h.1 c
    refine ex_step (pc' := 69) dX12_starts_67 rfl ?_
    refine ex_step (pc' := 72) (st' := [.int 1000, .int x4]) dX12_starts_69 rfl ?_
    refine ex_icmp (pc' := 78) dX12_starts_72 (by decide) (fun c => ?_) (fun c => ?_)
    · have h := h.1 c
      refine ex_step (pc' := 79) (st' := [.int 0]) dX12_starts_78 rfl ?_
      refine ex_step (pc' := 81) (ls' := [some (.ref 420), some (.int x1), some (.int x2), some (.int x3), some (.int x4), some (.int 0), none]) dX12_starts_79 rfl ?_
      refine ex_step (pc' := 82) (st' := [.int 0]) dX12_starts_81 rfl ?_
      refine ex_step (pc' := 84) (ls' := [some (.ref 420), some (.int x1), some (.int x2), some (.int x3), some (.int x4), some (.int 0), some (.int 0)]) dX12_starts_82 rfl ?_
      exact h
    · have h := h.2 c
      refine ex_step (pc' := 77) (st' := [.int (-2)]) dX12_starts_75 rfl ?_
      rw [h]; exact ex_ret (v := some (.int (-2))) ⟨dX12_starts_77, _, rfl, rfl⟩
  · have h := h.2 c
    refine ex_step (pc' := 55) dX12_starts_53 rfl ?_
    refine ex_step (pc' := 56) dX12_starts_55 rfl ?_
    refine ex_step (pc' := 57) (st' := [.int 1, .int x1, .int x4]) dX12_starts_56 rfl ?_
    refine ex_step (pc' := 58) dX12_starts_57 rfl ?_
    refine ex_step (pc' := 59) dX12_starts_58 rfl ?_
    refine ex_step (pc' := 61) (ls' := [some (.ref 420), some (.int x1), some (.int x2), some (.int x3), some (.int (x4 * (x1 + 1))), some (.int x5), none]) dX12_starts_59 rfl ?_
    refine ex_step (pc' := 64) (ls' := [some (.ref 420), some (.int x1), some (.int x2), some (.int x3), some (.int (x4 * (x1 + 1))), some (.int (x5 + 1)), none]) dX12_starts_61 rfl ?_
    refine ex_step (pc' := 39) dX12_starts_64 rfl ?_
    exact h
set_option maxHeartbeats 4000000 in
theorem BX12_starts_84 {d : Nat} {Z : zZ} {I : zI} {J : zJ} {o : zO} {t u : Nat} (x1 : Int32) (x2 : Int32) (x3 : Int32) (x4 : Int32) (x5 : Int32) (x6 : Int32) (hL : zLY Z t u)  (h : ((x4 ≤ x6 → o = (some (.int x5), Z, I, J)) ∧ (¬ x4 ≤ x6 → (∃ (v1 : Int32) (I2 : zI), zE (d + 6) kX12_isSo 0 [some (.ref 420), some (.int x6), some (.int x1), some (.int x2), some (.int x3), none, none] [] Z I J (some (.int v1), Z, I2, J) ∧ ((v1 = 0 → zE (d + 7) kX12_starts 84 [some (.ref 420), some (.int x1), some (.int x2), some (.int x3), some (.int x4), some (.int x5), some (.int (x6 + 1))] [] Z I2 J o) ∧ (¬ v1 = 0 → zE (d + 7) kX12_starts 84 [some (.ref 420), some (.int x1), some (.int x2), some (.int x3), some (.int x4), some (.int (x5 + 1)), some (.int (x6 + 1))] [] Z I2 J o)))))) : zE (d + 7) kX12_starts 84 [some (.ref 420), some (.int x1), some (.int x2), some (.int x3), some (.int x4), some (.int x5), some (.int x6)] [] Z I J o := by
  refine ex_step (pc' := 86) dX12_starts_84 rfl ?_
  refine ex_step (pc' := 88) dX12_starts_86 rfl ?_
  refine ex_icmp (pc' := 112) dX12_starts_88 (by decide) (fun c => ?_) (fun c => ?_)
  · have h := h.1 c
    refine ex_step (pc' := 114) dX12_starts_112 rfl ?_
    rw [h]; exact ex_ret (v := some (.int x5)) ⟨dX12_starts_114, _, rfl, rfl⟩
  · have h := h.2 c
    refine ex_step (pc' := 92) dX12_starts_91 rfl ?_
    refine ex_step (pc' := 94) dX12_starts_92 rfl ?_
    refine ex_step (pc' := 95) dX12_starts_94 rfl ?_
    refine ex_step (pc' := 96) dX12_starts_95 rfl ?_
    refine ex_step (pc' := 97) dX12_starts_96 rfl ?_
    obtain ⟨v1, I2, hc, h⟩ := h
    refine ex_callV (as := [.int x6, .int x1, .int x2, .int x3]) (st := []) (ci := 12) dX12_starts_97 zmX12_isSo zl_RX12_476 ziX12_isSo zvX12_isSo (by decide) (ly_a420 hL) rfl (Nat.le_of_ble_eq_true rfl) (Nat.le_of_ble_eq_true rfl) hc ?_
    refine ex_if (pc' := 106) dX12_starts_100 (by decide) (fun c => ?_) (fun c => ?_)
    · have h := h.1 c
      refine ex_step (pc' := 109) (ls' := [some (.ref 420), some (.int x1), some (.int x2), some (.int x3), some (.int x4), some (.int x5), some (.int (x6 + 1))]) dX12_starts_106 rfl ?_
      refine ex_step (pc' := 84) dX12_starts_109 rfl ?_
      exact h
    · have h := h.2 c
      refine ex_step (pc' := 106) (ls' := [some (.ref 420), some (.int x1), some (.int x2), some (.int x3), some (.int x4), some (.int (x5 + 1)), some (.int x6)]) dX12_starts_103 rfl ?_
      refine ex_step (pc' := 109) (ls' := [some (.ref 420), some (.int x1), some (.int x2), some (.int x3), some (.int x4), some (.int (x5 + 1)), some (.int (x6 + 1))]) dX12_starts_106 rfl ?_
      refine ex_step (pc' := 84) dX12_starts_109 rfl ?_
      exact h
set_option maxHeartbeats 4000000 in
theorem BX12_hold_0 {d : Nat} {Z : zZ} {I : zI} {J : zJ} {o : zO} {t u : Nat} (x1 : Int32) (hL : zLY Z t u)  (h : ((¬ (zbi (0 ≤ x1 ∧ x1 ≤ 2)) = 0 → (vp_in x1 3 ∧ (∀ I1 : zI, I1 = zu I 471 x1.toNatClampNeg (vp_nar .boolean 1) → zE (d + 1) kX12_hold 20 [some (.ref 420), some (.int x1), some (.int 0)] [] Z I1 J o))) ∧ ((zbi (0 ≤ x1 ∧ x1 ≤ 2)) = 0 → o = (some (.int 0), Z, I, J)))) : zE (d + 1) kX12_hold 0 [some (.ref 420), some (.int x1), none] [] Z I J o := by
  refine ex_step (pc' := 1) dX12_hold_0 rfl ?_
  refine ex_step (pc' := 2) (st' := [.int 0, .int x1]) dX12_hold_1 rfl ?_
  refine ex_step (pc' := 3) (st' := [.int 2, .int 0, .int x1]) dX12_hold_2 rfl ?_
  refine ex_callS (as := [.int x1, .int 0, .int 2]) (st := []) dX12_hold_3 zmX12_in zl_RX12_345 zsX12_in rfl (Nat.le_of_ble_eq_true rfl) (Nat.le_of_ble_eq_true rfl) M_in ?_
  refine ex_if (pc' := 11) dX12_hold_6 (by decide) (fun c => ?_) (fun c => ?_)
  · have h := h.1 c
    refine ex_step (pc' := 12) dX12_hold_11 rfl ?_
    refine ex_getr dX12_hold_12 wf_RX12_171 (ly_a420 hL) rfl (ly_r420_73 hL) ?_
    refine ex_step (pc' := 16) dX12_hold_15 rfl ?_
    refine ex_step (pc' := 17) (st' := [.int 1, .int x1, .ref 471]) dX12_hold_16 rfl ?_
    obtain ⟨hv, h⟩ := h
    refine ex_zastN dX12_hold_17 (ly_a471 hL) hv (fun I1 eI1 => ?_)
    have h := h I1 eI1
    refine ex_step (pc' := 19) (st' := [.int 0]) dX12_hold_18 rfl ?_
    refine ex_step (pc' := 20) (ls' := [some (.ref 420), some (.int x1), some (.int 0)]) dX12_hold_19 rfl ?_
    exact h
  · have h := h.2 (Classical.not_not.mp c)
    refine ex_step (pc' := 10) (st' := [.int 0]) dX12_hold_9 rfl ?_
    rw [h]; exact ex_ret (v := some (.int 0)) ⟨dX12_hold_10, _, rfl, rfl⟩
set_option maxHeartbeats 4000000 in
theorem BX12_hold_20 {d : Nat} {Z : zZ} {I : zI} {J : zJ} {o : zO} {t u : Nat} (x1 : Int32) (x2 : Int32) (hL : zLY Z t u)  (h : ((1290 ≤ x2 → o = (some (.int 1), Z, I, J)) ∧ (¬ 1290 ≤ x2 → (vp_in x2 1290 ∧ (vp_in (((1290 : Int32) * x1) + x2) 3870 ∧ (∀ I1 : zI, I1 = zu I 472 (((1290 : Int32) * x1) + x2).toNatClampNeg (I 457 x2.toNatClampNeg) → zE (d + 1) kX12_hold 20 [some (.ref 420), some (.int x1), some (.int (x2 + 1))] [] Z I1 J o)))))) : zE (d + 1) kX12_hold 20 [some (.ref 420), some (.int x1), some (.int x2)] [] Z I J o := by
  refine ex_step (pc' := 21) dX12_hold_20 rfl ?_
  refine ex_step (pc' := 24) (st' := [.int 1290, .int x2]) dX12_hold_21 rfl ?_
  refine ex_icmp (pc' := 51) dX12_hold_24 (by decide) (fun c => ?_) (fun c => ?_)
  · have h := h.1 c
    refine ex_step (pc' := 52) (st' := [.int 1]) dX12_hold_51 rfl ?_
    rw [h]; exact ex_ret (v := some (.int 1)) ⟨dX12_hold_52, _, rfl, rfl⟩
  · have h := h.2 c
    refine ex_step (pc' := 28) dX12_hold_27 rfl ?_
    refine ex_getr dX12_hold_28 wf_RX12_174 (ly_a420 hL) rfl (ly_r420_74 hL) ?_
    refine ex_step (pc' := 34) (st' := [.int 1290, .ref 472]) dX12_hold_31 rfl ?_
    refine ex_step (pc' := 35) dX12_hold_34 rfl ?_
    refine ex_step (pc' := 36) dX12_hold_35 rfl ?_
    refine ex_step (pc' := 37) dX12_hold_36 rfl ?_
    refine ex_step (pc' := 38) dX12_hold_37 rfl ?_
    refine ex_step (pc' := 39) dX12_hold_38 rfl ?_
    refine ex_getr dX12_hold_39 wf_RX12_128 (ly_a420 hL) rfl (ly_r420_55 hL) ?_
    refine ex_step (pc' := 43) dX12_hold_42 rfl ?_
    obtain ⟨hv, h⟩ := h
    refine ex_iald dX12_hold_43 (Or.inl (ly_a457 hL)) hv ?_
    obtain ⟨hv, h⟩ := h
    refine ex_iastN dX12_hold_44 (ly_a472 hL) hv (fun I1 eI1 => ?_)
    have h := h I1 eI1
    refine ex_step (pc' := 48) (ls' := [some (.ref 420), some (.int x1), some (.int (x2 + 1))]) dX12_hold_45 rfl ?_
    refine ex_step (pc' := 20) dX12_hold_48 rfl ?_
    exact h
set_option maxHeartbeats 4000000 in
theorem BX12_restore_0 {d : Nat} {Z : zZ} {I : zI} {J : zJ} {o : zO} {t u : Nat} (x1 : Int32) (hL : zLY Z t u)  (h : (((zbi (0 ≤ x1 ∧ x1 ≤ 2)) = 0 → o = (some (.int 0), Z, I, J)) ∧ (¬ (zbi (0 ≤ x1 ∧ x1 ≤ 2)) = 0 → (vp_in x1 3 ∧ ((¬ (I 471 x1.toNatClampNeg) = 0 → zE (d + 1) kX12_restore 22 [some (.ref 420), some (.int x1), some (.int 0)] [] Z I J o) ∧ ((I 471 x1.toNatClampNeg) = 0 → o = (some (.int 0), Z, I, J))))))) : zE (d + 1) kX12_restore 0 [some (.ref 420), some (.int x1), none] [] Z I J o := by
  refine ex_step (pc' := 1) dX12_restore_0 rfl ?_
  refine ex_step (pc' := 2) (st' := [.int 0, .int x1]) dX12_restore_1 rfl ?_
  refine ex_step (pc' := 3) (st' := [.int 2, .int 0, .int x1]) dX12_restore_2 rfl ?_
  refine ex_callS (as := [.int x1, .int 0, .int 2]) (st := []) dX12_restore_3 zmX12_in zl_RX12_345 zsX12_in rfl (Nat.le_of_ble_eq_true rfl) (Nat.le_of_ble_eq_true rfl) M_in ?_
  refine ex_if (pc' := 18) dX12_restore_6 (by decide) (fun c => ?_) (fun c => ?_)
  · have h := h.1 c
    refine ex_step (pc' := 19) (st' := [.int 0]) dX12_restore_18 rfl ?_
    rw [h]; exact ex_ret (v := some (.int 0)) ⟨dX12_restore_19, _, rfl, rfl⟩
  · have h := h.2 c
    refine ex_step (pc' := 10) dX12_restore_9 rfl ?_
    refine ex_getr dX12_restore_10 wf_RX12_171 (ly_a420 hL) rfl (ly_r420_73 hL) ?_
    refine ex_step (pc' := 14) dX12_restore_13 rfl ?_
    obtain ⟨hv, h⟩ := h
    refine ex_bald dX12_restore_14 (Or.inr (ly_a471 hL)) hv ?_
    refine ex_if (pc' := 20) dX12_restore_15 (by decide) (fun c => ?_) (fun c => ?_)
    · have h := h.1 c
      refine ex_step (pc' := 21) (st' := [.int 0]) dX12_restore_20 rfl ?_
      refine ex_step (pc' := 22) (ls' := [some (.ref 420), some (.int x1), some (.int 0)]) dX12_restore_21 rfl ?_
      exact h
    · have h := h.2 (Classical.not_not.mp c)
      refine ex_step (pc' := 19) (st' := [.int 0]) dX12_restore_18 rfl ?_
      rw [h]; exact ex_ret (v := some (.int 0)) ⟨dX12_restore_19, _, rfl, rfl⟩
set_option maxHeartbeats 4000000 in
theorem BX12_restore_22 {d : Nat} {Z : zZ} {I : zI} {J : zJ} {o : zO} {t u : Nat} (x1 : Int32) (x2 : Int32) (hL : zLY Z t u)  (h : ((1290 ≤ x2 → (∀ I1 : zI, I1 = zu I 420 58 0 → o = (some (.int 1), Z, I1, J))) ∧ (¬ 1290 ≤ x2 → (vp_in (((1290 : Int32) * x1) + x2) 3870 ∧ (vp_in x2 1290 ∧ (∀ I2 : zI, I2 = zu I 457 x2.toNatClampNeg (I 472 (((1290 : Int32) * x1) + x2).toNatClampNeg) → zE (d + 1) kX12_restore 22 [some (.ref 420), some (.int x1), some (.int (x2 + 1))] [] Z I2 J o)))))) : zE (d + 1) kX12_restore 22 [some (.ref 420), some (.int x1), some (.int x2)] [] Z I J o := by
  refine ex_step (pc' := 23) dX12_restore_22 rfl ?_
  refine ex_step (pc' := 26) (st' := [.int 1290, .int x2]) dX12_restore_23 rfl ?_
  refine ex_icmp (pc' := 53) dX12_restore_26 (by decide) (fun c => ?_) (fun c => ?_)
  · have h := h.1 c
    refine ex_step (pc' := 54) dX12_restore_53 rfl ?_
    refine ex_step (pc' := 55) (st' := [.int 0, .ref 420]) dX12_restore_54 rfl ?_
    refine ex_putiN dX12_restore_55 (wp_RX12_283 _) (ly_a420 hL) rfl ⟨rfl, rfl⟩ (fun I1 eI1 => ?_)
    have h := h I1 eI1
    refine ex_step (pc' := 59) (st' := [.int 1]) dX12_restore_58 rfl ?_
    rw [h]; exact ex_ret (v := some (.int 1)) ⟨dX12_restore_59, _, rfl, rfl⟩
  · have h := h.2 c
    refine ex_step (pc' := 30) dX12_restore_29 rfl ?_
    refine ex_getr dX12_restore_30 wf_RX12_128 (ly_a420 hL) rfl (ly_r420_55 hL) ?_
    refine ex_step (pc' := 34) dX12_restore_33 rfl ?_
    refine ex_step (pc' := 35) dX12_restore_34 rfl ?_
    refine ex_getr dX12_restore_35 wf_RX12_174 (ly_a420 hL) rfl (ly_r420_74 hL) ?_
    refine ex_step (pc' := 41) (st' := [.int 1290, .ref 472, .int x2, .ref 457]) dX12_restore_38 rfl ?_
    refine ex_step (pc' := 42) dX12_restore_41 rfl ?_
    refine ex_step (pc' := 43) dX12_restore_42 rfl ?_
    refine ex_step (pc' := 44) dX12_restore_43 rfl ?_
    refine ex_step (pc' := 45) dX12_restore_44 rfl ?_
    obtain ⟨hv, h⟩ := h
    refine ex_iald dX12_restore_45 (Or.inl (ly_a472 hL)) hv ?_
    obtain ⟨hv, h⟩ := h
    refine ex_iastN dX12_restore_46 (ly_a457 hL) hv (fun I2 eI2 => ?_)
    have h := h I2 eI2
    refine ex_step (pc' := 50) (ls' := [some (.ref 420), some (.int x1), some (.int (x2 + 1))]) dX12_restore_47 rfl ?_
    refine ex_step (pc' := 22) dX12_restore_50 rfl ?_
    exact h
set_option maxHeartbeats 4000000 in
theorem BX12_count_0 {d : Nat} {Z : zZ} {I : zI} {J : zJ} {o : zO} {t u : Nat} (x1 : Int32) (hL : zLY Z t u)  (h : ((x1.toInt < 0 ∨ 11 < x1.toInt → o = (some (.int (-1)), Z, I, J)) ∧ (x1 = 0 → (vp_in (I 420 18) 2 ∧ o = (some (.int (I 431 (I 420 18).toNatClampNeg)), Z, I, J))) ∧ (x1 = 1 → (vp_in (I 420 18) 2 ∧ o = (some (.int (I 429 (I 420 18).toNatClampNeg)), Z, I, J))) ∧ (x1 = 2 → (vp_in (I 420 18) 2 ∧ o = (some (.int (I 430 (I 420 18).toNatClampNeg)), Z, I, J))) ∧ (x1 = 3 → o = (some (.int (I 457 28)), Z, I, J)) ∧ (x1 = 4 → zE d kX12_count 106 [some (.ref 420), some (.int x1), some (.int 0), some (.int 0)] [] Z I J o) ∧ (x1 = 5 → zE d kX12_count 106 [some (.ref 420), some (.int x1), some (.int 0), some (.int 0)] [] Z I J o) ∧ (x1 = 6 → (vp_in (I 420 18) 2 ∧ o = (some (.int (I 438 (I 420 18).toNatClampNeg)), Z, I, J))) ∧ (x1 = 7 → zE d kX12_count 163 [some (.ref 420), none, some (.int 0), some (.int 0)] [] Z I J o) ∧ (x1 = 8 → o = (some (.int (I 420 2)), Z, I, J)) ∧ (x1 = 9 → o = (some (.int (I 420 58)), Z, I, J)) ∧ (x1 = 10 → o = (some (.int (I 420 69)), Z, I, J)) ∧ (x1 = 11 → (((I 471 0) = 0 → (((I 471 1) = 0 → (((I 471 2) = 0 → o = (some (.int (((0 : Int32) + 0) + 0)), Z, I, J)) ∧ (¬ (I 471 2) = 0 → o = (some (.int (((0 : Int32) + 0) + 1)), Z, I, J)))) ∧ (¬ (I 471 1) = 0 → (((I 471 2) = 0 → o = (some (.int (((0 : Int32) + 1) + 0)), Z, I, J)) ∧ (¬ (I 471 2) = 0 → o = (some (.int (((0 : Int32) + 1) + 1)), Z, I, J)))))) ∧ (¬ (I 471 0) = 0 → (((I 471 1) = 0 → (((I 471 2) = 0 → o = (some (.int (((1 : Int32) + 0) + 0)), Z, I, J)) ∧ (¬ (I 471 2) = 0 → o = (some (.int (((1 : Int32) + 0) + 1)), Z, I, J)))) ∧ (¬ (I 471 1) = 0 → (((I 471 2) = 0 → o = (some (.int (((1 : Int32) + 1) + 0)), Z, I, J)) ∧ (¬ (I 471 2) = 0 → o = (some (.int (((1 : Int32) + 1) + 1)), Z, I, J)))))))))) : zE d kX12_count 0 [some (.ref 420), some (.int x1), none, none] [] Z I J o := by
  refine ex_step (pc' := 1) dX12_count_0 rfl ?_
  refine ex_tab dX12_count_1 (fun c => ?_) (fun k off hk ho hx => ?_)
  · refine ⟨261, by decide, ?_⟩
    have h := h.1 c
    refine ex_step (pc' := 262) (st' := [.int (-1)]) dX12_count_261 rfl ?_
    rw [h]; exact ex_ret (v := some (.int (-1))) ⟨dX12_count_262, _, rfl, rfl⟩
  · have h := h.2
    match k, hk, ho, hx with
    | 0, hk, ho, hx =>
      cases ho
      refine ⟨64, by decide, ?_⟩
      have h := h.1 (Int32.toInt_inj.mp (hx.trans (by decide)))
      refine ex_step (pc' := 65) dX12_count_64 rfl ?_
      refine ex_getr dX12_count_65 wf_RX12_49 (ly_a420 hL) rfl (ly_r420_24 hL) ?_
      refine ex_step (pc' := 69) dX12_count_68 rfl ?_
      refine ex_geti dX12_count_69 wf_RX12_258 (ly_a420 hL) rfl ?_
      obtain ⟨hv, h⟩ := h
      refine ex_iald dX12_count_72 (Or.inl (ly_a431 hL)) hv ?_
      rw [h]; exact ex_ret (v := some (.int (I 431 (I 420 18).toNatClampNeg))) ⟨dX12_count_73, _, rfl, rfl⟩
    | 1, hk, ho, hx =>
      cases ho
      refine ⟨74, by decide, ?_⟩
      have h := h.2.1 (Int32.toInt_inj.mp (hx.trans (by decide)))
      refine ex_step (pc' := 75) dX12_count_74 rfl ?_
      refine ex_getr dX12_count_75 wf_RX12_43 (ly_a420 hL) rfl (ly_r420_22 hL) ?_
      refine ex_step (pc' := 79) dX12_count_78 rfl ?_
      refine ex_geti dX12_count_79 wf_RX12_258 (ly_a420 hL) rfl ?_
      obtain ⟨hv, h⟩ := h
      refine ex_iald dX12_count_82 (Or.inl (ly_a429 hL)) hv ?_
      rw [h]; exact ex_ret (v := some (.int (I 429 (I 420 18).toNatClampNeg))) ⟨dX12_count_83, _, rfl, rfl⟩
    | 2, hk, ho, hx =>
      cases ho
      refine ⟨84, by decide, ?_⟩
      have h := h.2.2.1 (Int32.toInt_inj.mp (hx.trans (by decide)))
      refine ex_step (pc' := 85) dX12_count_84 rfl ?_
      refine ex_getr dX12_count_85 wf_RX12_46 (ly_a420 hL) rfl (ly_r420_23 hL) ?_
      refine ex_step (pc' := 89) dX12_count_88 rfl ?_
      refine ex_geti dX12_count_89 wf_RX12_258 (ly_a420 hL) rfl ?_
      obtain ⟨hv, h⟩ := h
      refine ex_iald dX12_count_92 (Or.inl (ly_a430 hL)) hv ?_
      rw [h]; exact ex_ret (v := some (.int (I 430 (I 420 18).toNatClampNeg))) ⟨dX12_count_93, _, rfl, rfl⟩
    | 3, hk, ho, hx =>
      cases ho
      refine ⟨94, by decide, ?_⟩
      have h := h.2.2.2.1 (Int32.toInt_inj.mp (hx.trans (by decide)))
      refine ex_step (pc' := 95) dX12_count_94 rfl ?_
      refine ex_getr dX12_count_95 wf_RX12_128 (ly_a420 hL) rfl (ly_r420_55 hL) ?_
      refine ex_step (pc' := 100) (st' := [.int 28, .ref 457]) dX12_count_98 rfl ?_
      have hv : vp_in 28 1290 := by unfold vp_in; decide
      refine ex_iald dX12_count_100 (Or.inl (ly_a457 hL)) hv ?_
      rw [h]; exact ex_ret (v := some (.int (I 457 28))) ⟨dX12_count_101, _, rfl, rfl⟩
    | 4, hk, ho, hx =>
      cases ho
      refine ⟨102, by decide, ?_⟩
      have h := h.2.2.2.2.1 (Int32.toInt_inj.mp (hx.trans (by decide)))
      refine ex_step (pc' := 103) (st' := [.int 0]) dX12_count_102 rfl ?_
      refine ex_step (pc' := 104) (ls' := [some (.ref 420), some (.int x1), some (.int 0), none]) dX12_count_103 rfl ?_
      refine ex_step (pc' := 105) (st' := [.int 0]) dX12_count_104 rfl ?_
      refine ex_step (pc' := 106) (ls' := [some (.ref 420), some (.int x1), some (.int 0), some (.int 0)]) dX12_count_105 rfl ?_
      exact h
    | 5, hk, ho, hx =>
      cases ho
      refine ⟨102, by decide, ?_⟩
      have h := h.2.2.2.2.2.1 (Int32.toInt_inj.mp (hx.trans (by decide)))
      refine ex_step (pc' := 103) (st' := [.int 0]) dX12_count_102 rfl ?_
      refine ex_step (pc' := 104) (ls' := [some (.ref 420), some (.int x1), some (.int 0), none]) dX12_count_103 rfl ?_
      refine ex_step (pc' := 105) (st' := [.int 0]) dX12_count_104 rfl ?_
      refine ex_step (pc' := 106) (ls' := [some (.ref 420), some (.int x1), some (.int 0), some (.int 0)]) dX12_count_105 rfl ?_
      exact h
    | 6, hk, ho, hx =>
      cases ho
      refine ⟨149, by decide, ?_⟩
      have h := h.2.2.2.2.2.2.1 (Int32.toInt_inj.mp (hx.trans (by decide)))
      refine ex_step (pc' := 150) dX12_count_149 rfl ?_
      refine ex_getr dX12_count_150 wf_RX12_70 (ly_a420 hL) rfl (ly_r420_31 hL) ?_
      refine ex_step (pc' := 154) dX12_count_153 rfl ?_
      refine ex_geti dX12_count_154 wf_RX12_258 (ly_a420 hL) rfl ?_
      obtain ⟨hv, h⟩ := h
      refine ex_iald dX12_count_157 (Or.inl (ly_a438 hL)) hv ?_
      rw [h]; exact ex_ret (v := some (.int (I 438 (I 420 18).toNatClampNeg))) ⟨dX12_count_158, _, rfl, rfl⟩
    | 7, hk, ho, hx =>
      cases ho
      refine ⟨159, by decide, ?_⟩
      have h := h.2.2.2.2.2.2.2.1 (Int32.toInt_inj.mp (hx.trans (by decide)))
      refine ex_step (pc' := 160) (st' := [.int 0]) dX12_count_159 rfl ?_
      refine ex_step (pc' := 161) (ls' := [some (.ref 420), some (.int x1), some (.int 0), none]) dX12_count_160 rfl ?_
      refine ex_step (pc' := 162) (st' := [.int 0]) dX12_count_161 rfl ?_
      refine ex_step (pc' := 163) (ls' := [some (.ref 420), some (.int x1), some (.int 0), some (.int 0)]) dX12_count_162 rfl ?_
      exact ex_less (ls' := [some (.ref 420), none, some (.int 0), some (.int 0)]) ⟨rfl, ⟨rfl, ⟨rfl, trivial⟩⟩⟩ h
    | 8, hk, ho, hx =>
      cases ho
      refine ⟨201, by decide, ?_⟩
      have h := h.2.2.2.2.2.2.2.2.1 (Int32.toInt_inj.mp (hx.trans (by decide)))
      refine ex_step (pc' := 202) dX12_count_201 rfl ?_
      refine ex_geti dX12_count_202 wf_RX12_191 (ly_a420 hL) rfl ?_
      rw [h]; exact ex_ret (v := some (.int (I 420 2))) ⟨dX12_count_205, _, rfl, rfl⟩
    | 9, hk, ho, hx =>
      cases ho
      refine ⟨206, by decide, ?_⟩
      have h := h.2.2.2.2.2.2.2.2.2.1 (Int32.toInt_inj.mp (hx.trans (by decide)))
      refine ex_step (pc' := 207) dX12_count_206 rfl ?_
      refine ex_geti dX12_count_207 wf_RX12_283 (ly_a420 hL) rfl ?_
      rw [h]; exact ex_ret (v := some (.int (I 420 58))) ⟨dX12_count_210, _, rfl, rfl⟩
    | 10, hk, ho, hx =>
      cases ho
      refine ⟨211, by decide, ?_⟩
      have h := h.2.2.2.2.2.2.2.2.2.2.1 (Int32.toInt_inj.mp (hx.trans (by decide)))
      refine ex_step (pc' := 212) dX12_count_211 rfl ?_
      refine ex_geti dX12_count_212 wf_RX12_286 (ly_a420 hL) rfl ?_
      rw [h]; exact ex_ret (v := some (.int (I 420 69))) ⟨dX12_count_215, _, rfl, rfl⟩
    | 11, hk, ho, hx =>
      cases ho
      refine ⟨216, by decide, ?_⟩
      have h := h.2.2.2.2.2.2.2.2.2.2.2 (Int32.toInt_inj.mp (hx.trans (by decide)))
      refine ex_step (pc' := 217) dX12_count_216 rfl ?_
      refine ex_getr dX12_count_217 wf_RX12_171 (ly_a420 hL) rfl (ly_r420_73 hL) ?_
      refine ex_step (pc' := 221) (st' := [.int 0, .ref 471]) dX12_count_220 rfl ?_
      have hv : vp_in 0 3 := by unfold vp_in; decide
      refine ex_bald dX12_count_221 (Or.inr (ly_a471 hL)) hv ?_
      refine ex_if (pc' := 229) dX12_count_222 (by decide) (fun c => ?_) (fun c => ?_)
      · have h := h.1 c
        refine ex_step (pc' := 230) (st' := [.int 0]) dX12_count_229 rfl ?_
        refine ex_step (pc' := 231) dX12_count_230 rfl ?_
        refine ex_getr dX12_count_231 wf_RX12_171 (ly_a420 hL) rfl (ly_r420_73 hL) ?_
        refine ex_step (pc' := 235) (st' := [.int 1, .ref 471, .int 0]) dX12_count_234 rfl ?_
        have hv : vp_in 1 3 := by unfold vp_in; decide
        refine ex_bald dX12_count_235 (Or.inr (ly_a471 hL)) hv ?_
        refine ex_if (pc' := 243) dX12_count_236 (by decide) (fun c => ?_) (fun c => ?_)
        · have h := h.1 c
          refine ex_step (pc' := 244) (st' := [.int 0, .int 0]) dX12_count_243 rfl ?_
          refine ex_step (pc' := 245) dX12_count_244 rfl ?_
          refine ex_step (pc' := 246) dX12_count_245 rfl ?_
          refine ex_getr dX12_count_246 wf_RX12_171 (ly_a420 hL) rfl (ly_r420_73 hL) ?_
          refine ex_step (pc' := 250) (st' := [.int 2, .ref 471, .int ((0 : Int32) + 0)]) dX12_count_249 rfl ?_
          have hv : vp_in 2 3 := by unfold vp_in; decide
          refine ex_bald dX12_count_250 (Or.inr (ly_a471 hL)) hv ?_
          refine ex_if (pc' := 258) dX12_count_251 (by decide) (fun c => ?_) (fun c => ?_)
          · have h := h.1 c
            refine ex_step (pc' := 259) (st' := [.int 0, .int ((0 : Int32) + 0)]) dX12_count_258 rfl ?_
            refine ex_step (pc' := 260) dX12_count_259 rfl ?_
            rw [h]; exact ex_ret (v := some (.int (((0 : Int32) + 0) + 0))) ⟨dX12_count_260, _, rfl, rfl⟩
          · have h := h.2 c
            refine ex_step (pc' := 255) (st' := [.int 1, .int ((0 : Int32) + 0)]) dX12_count_254 rfl ?_
            refine ex_step (pc' := 259) dX12_count_255 rfl ?_
            refine ex_step (pc' := 260) dX12_count_259 rfl ?_
            rw [h]; exact ex_ret (v := some (.int (((0 : Int32) + 0) + 1))) ⟨dX12_count_260, _, rfl, rfl⟩
        · have h := h.2 c
          refine ex_step (pc' := 240) (st' := [.int 1, .int 0]) dX12_count_239 rfl ?_
          refine ex_step (pc' := 244) dX12_count_240 rfl ?_
          refine ex_step (pc' := 245) dX12_count_244 rfl ?_
          refine ex_step (pc' := 246) dX12_count_245 rfl ?_
          refine ex_getr dX12_count_246 wf_RX12_171 (ly_a420 hL) rfl (ly_r420_73 hL) ?_
          refine ex_step (pc' := 250) (st' := [.int 2, .ref 471, .int ((0 : Int32) + 1)]) dX12_count_249 rfl ?_
          have hv : vp_in 2 3 := by unfold vp_in; decide
          refine ex_bald dX12_count_250 (Or.inr (ly_a471 hL)) hv ?_
          refine ex_if (pc' := 258) dX12_count_251 (by decide) (fun c => ?_) (fun c => ?_)
          · have h := h.1 c
            refine ex_step (pc' := 259) (st' := [.int 0, .int ((0 : Int32) + 1)]) dX12_count_258 rfl ?_
            refine ex_step (pc' := 260) dX12_count_259 rfl ?_
            rw [h]; exact ex_ret (v := some (.int (((0 : Int32) + 1) + 0))) ⟨dX12_count_260, _, rfl, rfl⟩
          · have h := h.2 c
            refine ex_step (pc' := 255) (st' := [.int 1, .int ((0 : Int32) + 1)]) dX12_count_254 rfl ?_
            refine ex_step (pc' := 259) dX12_count_255 rfl ?_
            refine ex_step (pc' := 260) dX12_count_259 rfl ?_
            rw [h]; exact ex_ret (v := some (.int (((0 : Int32) + 1) + 1))) ⟨dX12_count_260, _, rfl, rfl⟩
      · have h := h.2 c
        refine ex_step (pc' := 226) (st' := [.int 1]) dX12_count_225 rfl ?_
        refine ex_step (pc' := 230) dX12_count_226 rfl ?_
        refine ex_step (pc' := 231) dX12_count_230 rfl ?_
        refine ex_getr dX12_count_231 wf_RX12_171 (ly_a420 hL) rfl (ly_r420_73 hL) ?_
        refine ex_step (pc' := 235) (st' := [.int 1, .ref 471, .int 1]) dX12_count_234 rfl ?_
        have hv : vp_in 1 3 := by unfold vp_in; decide
        refine ex_bald dX12_count_235 (Or.inr (ly_a471 hL)) hv ?_
        refine ex_if (pc' := 243) dX12_count_236 (by decide) (fun c => ?_) (fun c => ?_)
        · have h := h.1 c
          refine ex_step (pc' := 244) (st' := [.int 0, .int 1]) dX12_count_243 rfl ?_
          refine ex_step (pc' := 245) dX12_count_244 rfl ?_
          refine ex_step (pc' := 246) dX12_count_245 rfl ?_
          refine ex_getr dX12_count_246 wf_RX12_171 (ly_a420 hL) rfl (ly_r420_73 hL) ?_
          refine ex_step (pc' := 250) (st' := [.int 2, .ref 471, .int ((1 : Int32) + 0)]) dX12_count_249 rfl ?_
          have hv : vp_in 2 3 := by unfold vp_in; decide
          refine ex_bald dX12_count_250 (Or.inr (ly_a471 hL)) hv ?_
          refine ex_if (pc' := 258) dX12_count_251 (by decide) (fun c => ?_) (fun c => ?_)
          · have h := h.1 c
            refine ex_step (pc' := 259) (st' := [.int 0, .int ((1 : Int32) + 0)]) dX12_count_258 rfl ?_
            refine ex_step (pc' := 260) dX12_count_259 rfl ?_
            rw [h]; exact ex_ret (v := some (.int (((1 : Int32) + 0) + 0))) ⟨dX12_count_260, _, rfl, rfl⟩
          · have h := h.2 c
            refine ex_step (pc' := 255) (st' := [.int 1, .int ((1 : Int32) + 0)]) dX12_count_254 rfl ?_
            refine ex_step (pc' := 259) dX12_count_255 rfl ?_
            refine ex_step (pc' := 260) dX12_count_259 rfl ?_
            rw [h]; exact ex_ret (v := some (.int (((1 : Int32) + 0) + 1))) ⟨dX12_count_260, _, rfl, rfl⟩
        · have h := h.2 c
          refine ex_step (pc' := 240) (st' := [.int 1, .int 1]) dX12_count_239 rfl ?_
          refine ex_step (pc' := 244) dX12_count_240 rfl ?_
          refine ex_step (pc' := 245) dX12_count_244 rfl ?_
          refine ex_step (pc' := 246) dX12_count_245 rfl ?_
          refine ex_getr dX12_count_246 wf_RX12_171 (ly_a420 hL) rfl (ly_r420_73 hL) ?_
          refine ex_step (pc' := 250) (st' := [.int 2, .ref 471, .int ((1 : Int32) + 1)]) dX12_count_249 rfl ?_
          have hv : vp_in 2 3 := by unfold vp_in; decide
          refine ex_bald dX12_count_250 (Or.inr (ly_a471 hL)) hv ?_
          refine ex_if (pc' := 258) dX12_count_251 (by decide) (fun c => ?_) (fun c => ?_)
          · have h := h.1 c
            refine ex_step (pc' := 259) (st' := [.int 0, .int ((1 : Int32) + 1)]) dX12_count_258 rfl ?_
            refine ex_step (pc' := 260) dX12_count_259 rfl ?_
            rw [h]; exact ex_ret (v := some (.int (((1 : Int32) + 1) + 0))) ⟨dX12_count_260, _, rfl, rfl⟩
          · have h := h.2 c
            refine ex_step (pc' := 255) (st' := [.int 1, .int ((1 : Int32) + 1)]) dX12_count_254 rfl ?_
            refine ex_step (pc' := 259) dX12_count_255 rfl ?_
            refine ex_step (pc' := 260) dX12_count_259 rfl ?_
            rw [h]; exact ex_ret (v := some (.int (((1 : Int32) + 1) + 1))) ⟨dX12_count_260, _, rfl, rfl⟩
    | (k + 12), hk, ho, hx => exact absurd hk (by simp)
set_option maxHeartbeats 4000000 in
theorem BX12_count_106 {d : Nat} {Z : zZ} {I : zI} {J : zJ} {o : zO} {t u : Nat} (x1 : Int32) (x2 : Int32) (x3 : Int32) (hL : zLY Z t u)  (h : (vp_in (I 420 18) 2 ∧ (((I 431 (I 420 18).toNatClampNeg) ≤ x3 → o = (some (.int x2), Z, I, J)) ∧ (¬ (I 431 (I 420 18).toNatClampNeg) ≤ x3 → ((¬ x1 = 4 → (vp_in ((21 : Int32) + x3) 1290 ∧ (∀ y1 : Int32, y1 = (x2 + (I 457 ((21 : Int32) + x3).toNatClampNeg)) → zE d kX12_count 106 [some (.ref 420), some (.int x1), some (.int y1), some (.int (x3 + 1))] [] Z I J o))) ∧ (x1 = 4 → (vp_in ((14 : Int32) + x3) 1290 ∧ (∀ y2 : Int32, y2 = (x2 + (I 457 ((14 : Int32) + x3).toNatClampNeg)) → zE d kX12_count 106 [some (.ref 420), some (.int x1), some (.int y2), some (.int (x3 + 1))] [] Z I J o)))))))) : zE d kX12_count 106 [some (.ref 420), some (.int x1), some (.int x2), some (.int x3)] [] Z I J o := by
  refine ex_step (pc' := 107) dX12_count_106 rfl ?_
  refine ex_step (pc' := 108) dX12_count_107 rfl ?_
  refine ex_getr dX12_count_108 wf_RX12_49 (ly_a420 hL) rfl (ly_r420_24 hL) ?_
  refine ex_step (pc' := 112) dX12_count_111 rfl ?_
  refine ex_geti dX12_count_112 wf_RX12_258 (ly_a420 hL) rfl ?_
  obtain ⟨hv, h⟩ := h
  refine ex_iald dX12_count_115 (Or.inl (ly_a431 hL)) hv ?_
  refine ex_icmp (pc' := 147) dX12_count_116 (by decide) (fun c => ?_) (fun c => ?_)
  · have h := h.1 c
    refine ex_step (pc' := 148) dX12_count_147 rfl ?_
    rw [h]; exact ex_ret (v := some (.int x2)) ⟨dX12_count_148, _, rfl, rfl⟩
  · have h := h.2 c
    refine ex_step (pc' := 120) dX12_count_119 rfl ?_
    refine ex_step (pc' := 121) dX12_count_120 rfl ?_
    refine ex_getr dX12_count_121 wf_RX12_128 (ly_a420 hL) rfl (ly_r420_55 hL) ?_
    refine ex_step (pc' := 125) dX12_count_124 rfl ?_
    refine ex_step (pc' := 126) (st' := [.int 4, .int x1, .ref 457, .int x2]) dX12_count_125 rfl ?_
    refine ex_icmp (pc' := 134) dX12_count_126 (by decide) (fun c => ?_) (fun c => ?_)
    · have h := h.1 c
      refine ex_step (pc' := 136) (st' := [.int 21, .ref 457, .int x2]) dX12_count_134 rfl ?_
      refine ex_step (pc' := 137) dX12_count_136 rfl ?_
      refine ex_step (pc' := 138) dX12_count_137 rfl ?_
      obtain ⟨hv, h⟩ := h
      refine ex_iald dX12_count_138 (Or.inl (ly_a457 hL)) hv ?_
      refine ex_step (pc' := 140) dX12_count_139 rfl ?_
      refine ex_topi (fun y1 ey1 => ?_)
      have h := h y1 ey1
      refine ex_step (pc' := 141) (ls' := [some (.ref 420), some (.int x1), some (.int y1), some (.int x3)]) dX12_count_140 rfl ?_
      refine ex_step (pc' := 144) (ls' := [some (.ref 420), some (.int x1), some (.int y1), some (.int (x3 + 1))]) dX12_count_141 rfl ?_
      refine ex_step (pc' := 106) dX12_count_144 rfl ?_
      exact h
    · have h := h.2 (Classical.not_not.mp c)
      refine ex_step (pc' := 131) (st' := [.int 14, .ref 457, .int x2]) dX12_count_129 rfl ?_
      refine ex_step (pc' := 136) dX12_count_131 rfl ?_
      refine ex_step (pc' := 137) dX12_count_136 rfl ?_
      refine ex_step (pc' := 138) dX12_count_137 rfl ?_
      obtain ⟨hv, h⟩ := h
      refine ex_iald dX12_count_138 (Or.inl (ly_a457 hL)) hv ?_
      refine ex_step (pc' := 140) dX12_count_139 rfl ?_
      refine ex_topi (fun y2 ey2 => ?_)
      have h := h y2 ey2
      refine ex_step (pc' := 141) (ls' := [some (.ref 420), some (.int x1), some (.int y2), some (.int x3)]) dX12_count_140 rfl ?_
      refine ex_step (pc' := 144) (ls' := [some (.ref 420), some (.int x1), some (.int y2), some (.int (x3 + 1))]) dX12_count_141 rfl ?_
      refine ex_step (pc' := 106) dX12_count_144 rfl ?_
      exact h
set_option maxHeartbeats 4000000 in
theorem BX12_count_163 {d : Nat} {Z : zZ} {I : zI} {J : zJ} {o : zO} {t u : Nat} (x2 : Int32) (x3 : Int32) (hL : zLY Z t u)  (h : (vp_in (I 420 18) 2 ∧ (((I 431 (I 420 18).toNatClampNeg) ≤ x3 → o = (some (.int x2), Z, I, J)) ∧ (¬ (I 431 (I 420 18).toNatClampNeg) ≤ x3 → (vp_in (((7 : Int32) * (I 420 18)) + x3) 14 ∧ (∀ y1 : Int32, y1 = (x2 + (I 435 (((7 : Int32) * (I 420 18)) + x3).toNatClampNeg)) → zE d kX12_count 163 [some (.ref 420), none, some (.int y1), some (.int (x3 + 1))] [] Z I J o)))))) : zE d kX12_count 163 [some (.ref 420), none, some (.int x2), some (.int x3)] [] Z I J o := by
  refine ex_step (pc' := 164) dX12_count_163 rfl ?_
  refine ex_step (pc' := 165) dX12_count_164 rfl ?_
  refine ex_getr dX12_count_165 wf_RX12_49 (ly_a420 hL) rfl (ly_r420_24 hL) ?_
  refine ex_step (pc' := 169) dX12_count_168 rfl ?_
  refine ex_geti dX12_count_169 wf_RX12_258 (ly_a420 hL) rfl ?_
  obtain ⟨hv, h⟩ := h
  refine ex_iald dX12_count_172 (Or.inl (ly_a431 hL)) hv ?_
  refine ex_icmp (pc' := 199) dX12_count_173 (by decide) (fun c => ?_) (fun c => ?_)
  · have h := h.1 c
    refine ex_step (pc' := 200) dX12_count_199 rfl ?_
    rw [h]; exact ex_ret (v := some (.int x2)) ⟨dX12_count_200, _, rfl, rfl⟩
  · have h := h.2 c
    refine ex_step (pc' := 177) dX12_count_176 rfl ?_
    refine ex_step (pc' := 178) dX12_count_177 rfl ?_
    refine ex_getr dX12_count_178 wf_RX12_61 (ly_a420 hL) rfl (ly_r420_28 hL) ?_
    refine ex_step (pc' := 183) (st' := [.int 7, .ref 435, .int x2]) dX12_count_181 rfl ?_
    refine ex_step (pc' := 184) dX12_count_183 rfl ?_
    refine ex_geti dX12_count_184 wf_RX12_258 (ly_a420 hL) rfl ?_
    refine ex_step (pc' := 188) dX12_count_187 rfl ?_
    refine ex_step (pc' := 189) dX12_count_188 rfl ?_
    refine ex_step (pc' := 190) dX12_count_189 rfl ?_
    obtain ⟨hv, h⟩ := h
    refine ex_iald dX12_count_190 (Or.inl (ly_a435 hL)) hv ?_
    refine ex_step (pc' := 192) dX12_count_191 rfl ?_
    refine ex_topi (fun y1 ey1 => ?_)
    have h := h y1 ey1
    refine ex_step (pc' := 193) (ls' := [some (.ref 420), none, some (.int y1), some (.int x3)]) dX12_count_192 rfl ?_
    refine ex_step (pc' := 196) (ls' := [some (.ref 420), none, some (.int y1), some (.int (x3 + 1))]) dX12_count_193 rfl ?_
    refine ex_step (pc' := 163) dX12_count_196 rfl ?_
    exact h
