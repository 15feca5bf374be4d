set_option maxHeartbeats 4000000 in
theorem BX11_at_0 {d : Nat} {Z : zZ} {I : zI} {J : zJ} {o : zO} {a0 n0 : Nat} (x1 : Int32) (ha0 : zis Z a0 1 n0) (h : ((x1 < 0 → o = (some (.int 0), Z, I, J)) ∧ (¬ x1 < 0 → (((Int32.ofNat n0) ≤ x1 → o = (some (.int 0), Z, I, J)) ∧ (¬ (Int32.ofNat n0) ≤ x1 → (vp_in x1 n0 ∧ o = (some (.int (I a0 x1.toNatClampNeg)), Z, I, J))))))) : zE d kX11_at 0 [some (.ref a0), some (.int x1)] [] Z I J o := by
  refine ex_step (pc' := 1) dX11_at_0 rfl ?_
  refine ex_if (pc' := 16) dX11_at_1 (by decide) (fun c => ?_) (fun c => ?_)
  · have h := h.1 c
    refine ex_step (pc' := 17) (st' := [.int 0]) dX11_at_16 rfl ?_
    rw [h]; exact ex_ret (v := some (.int 0)) ⟨dX11_at_17, _, rfl, rfl⟩
  · have h := h.2 c
    refine ex_step (pc' := 5) dX11_at_4 rfl ?_
    refine ex_step (pc' := 6) dX11_at_5 rfl ?_
    refine ex_alen dX11_at_6 (Or.inl ⟨ha0, by decide, by decide⟩) ?_
    refine ex_icmp (pc' := 16) dX11_at_7 (by decide) (fun c => ?_) (fun c => ?_)
    · have h := h.1 c
      refine ex_step (pc' := 17) (st' := [.int 0]) dX11_at_16 rfl ?_
      rw [h]; exact ex_ret (v := some (.int 0)) ⟨dX11_at_17, _, rfl, rfl⟩
    · have h := h.2 c
      refine ex_step (pc' := 11) dX11_at_10 rfl ?_
      refine ex_step (pc' := 12) dX11_at_11 rfl ?_
      obtain ⟨hv, h⟩ := h
      refine ex_iald dX11_at_12 (Or.inl ha0) hv ?_
      refine ex_step (pc' := 17) dX11_at_13 rfl ?_
      rw [h]; exact ex_ret (v := some (.int (I a0 x1.toNatClampNeg))) ⟨dX11_at_17, _, rfl, rfl⟩
set_option maxHeartbeats 4000000 in
theorem BX11_put_0 {d : Nat} {Z : zZ} {I : zI} {J : zJ} {o : zO} {a0 n0 : Nat} (x1 : Int32) (x2 : Int32) (ha0 : zis Z a0 1 n0) (h : ((x1 < 0 → o = (none, Z, I, J)) ∧ (¬ x1 < 0 → (((Int32.ofNat n0) ≤ x1 → o = (none, Z, I, J)) ∧ (¬ (Int32.ofNat n0) ≤ x1 → (vp_in x1 n0 ∧ (∀ I1 : zI, I1 = zu I a0 x1.toNatClampNeg x2 → o = (none, Z, I1, J)))))))) : zE d kX11_put 0 [some (.ref a0), some (.int x1), some (.int x2)] [] Z I J o := by
  refine ex_step (pc' := 1) dX11_put_0 rfl ?_
  refine ex_if (pc' := 14) dX11_put_1 (by decide) (fun c => ?_) (fun c => ?_)
  · have h := h.1 c
    rw [h]; exact ex_ret (v := none) ⟨dX11_put_14, rfl⟩
  · have h := h.2 c
    refine ex_step (pc' := 5) dX11_put_4 rfl ?_
    refine ex_step (pc' := 6) dX11_put_5 rfl ?_
    refine ex_alen dX11_put_6 (Or.inl ⟨ha0, by decide, by decide⟩) ?_
    refine ex_icmp (pc' := 14) dX11_put_7 (by decide) (fun c => ?_) (fun c => ?_)
    · have h := h.1 c
      rw [h]; exact ex_ret (v := none) ⟨dX11_put_14, rfl⟩
    · have h := h.2 c
      refine ex_step (pc' := 11) dX11_put_10 rfl ?_
      refine ex_step (pc' := 12) dX11_put_11 rfl ?_
      refine ex_step (pc' := 13) dX11_put_12 rfl ?_
      obtain ⟨hv, h⟩ := h
      refine ex_iastN dX11_put_13 ha0 hv (fun I1 eI1 => ?_)
      have h := h I1 eI1
      rw [h]; exact ex_ret (v := none) ⟨dX11_put_14, rfl⟩
set_option maxHeartbeats 4000000 in
theorem BX11_pieceOf_0 {d : Nat} {Z : zZ} {I : zI} {J : zJ} {o : zO} (x0 : Int32) (x1 : Int32)  (h : o = (some (.int (((x0 * 60) + x1) + 1)), Z, I, J)) : zE d kX11_pieceOf 0 [some (.int x0), some (.int x1)] [] Z I J o := by
  refine ex_step (pc' := 1) dX11_pieceOf_0 rfl ?_
  refine ex_step (pc' := 3) (st' := [.int 60, .int x0]) dX11_pieceOf_1 rfl ?_
  refine ex_step (pc' := 4) dX11_pieceOf_3 rfl ?_
  refine ex_step (pc' := 5) dX11_pieceOf_4 rfl ?_
  refine ex_step (pc' := 6) dX11_pieceOf_5 rfl ?_
  refine ex_step (pc' := 7) (st' := [.int 1, .int ((x0 * 60) + x1)]) dX11_pieceOf_6 rfl ?_
  refine ex_step (pc' := 8) dX11_pieceOf_7 rfl ?_
  rw [h]; exact ex_ret (v := some (.int (((x0 * 60) + x1) + 1))) ⟨dX11_pieceOf_8, _, rfl, rfl⟩
set_option maxHeartbeats 4000000 in
theorem BX11_ownerOf_0 {d : Nat} {Z : zZ} {I : zI} {J : zJ} {o : zO} (x0 : Int32)  (h : o = (some (.int ((x0 - 1) / 60)), Z, I, J)) : zE d kX11_ownerOf 0 [some (.int x0)] [] Z I J o := by
  refine ex_step (pc' := 1) dX11_ownerOf_0 rfl ?_
  refine ex_step (pc' := 2) (st' := [.int 1, .int x0]) dX11_ownerOf_1 rfl ?_
  refine ex_step (pc' := 3) dX11_ownerOf_2 rfl ?_
  refine ex_step (pc' := 5) (st' := [.int 60, .int (x0 - 1)]) dX11_ownerOf_3 rfl ?_
  refine ex_div dX11_ownerOf_5 (by decide) ?_
  rw [h]; exact ex_ret (v := some (.int ((x0 - 1) / 60))) ⟨dX11_ownerOf_6, _, rfl, rfl⟩
set_option maxHeartbeats 4000000 in
theorem BX11_streetOf_0 {d : Nat} {Z : zZ} {I : zI} {J : zJ} {o : zO} (x0 : Int32) (x1 : Int32) (x2 : Int32)  (h : ((¬ x2 = 4 → ((¬ x2 = 3 → o = (some (.int (((2 : Int32) * ((x1 * 12) + x0)) + (x2 &&& 1))), Z, I, J)) ∧ (x2 = 3 → o = (some (.int (((2 : Int32) * (((x1 - 1) * 12) + x0)) + (x2 &&& 1))), Z, I, J)))) ∧ (x2 = 4 → ((¬ x2 = 3 → o = (some (.int (((2 : Int32) * ((x1 * 12) + (x0 - 1))) + (x2 &&& 1))), Z, I, J)) ∧ (x2 = 3 → o = (some (.int (((2 : Int32) * (((x1 - 1) * 12) + (x0 - 1))) + (x2 &&& 1))), Z, I, J)))))) : zE d kX11_streetOf 0 [some (.int x0), some (.int x1), some (.int x2), none, none] [] Z I J o := by
  refine ex_step (pc' := 1) dX11_streetOf_0 rfl ?_
  refine ex_step (pc' := 2) (st' := [.int 4, .int x2]) dX11_streetOf_1 rfl ?_
  refine ex_icmp (pc' := 11) dX11_streetOf_2 (by decide) (fun c => ?_) (fun c => ?_)
  · have h := h.1 c
    refine ex_step (pc' := 12) dX11_streetOf_11 rfl ?_
    refine ex_step (pc' := 13) (ls' := [some (.int x0), some (.int x1), some (.int x2), some (.int x0), none]) dX11_streetOf_12 rfl ?_
    refine ex_step (pc' := 14) dX11_streetOf_13 rfl ?_
    refine ex_step (pc' := 15) (st' := [.int 3, .int x2]) dX11_streetOf_14 rfl ?_
    refine ex_icmp (pc' := 24) dX11_streetOf_15 (by decide) (fun c => ?_) (fun c => ?_)
    · have h := h.1 c
      refine ex_step (pc' := 25) dX11_streetOf_24 rfl ?_
      refine ex_step (pc' := 27) (ls' := [some (.int x0), some (.int x1), some (.int x2), some (.int x0), some (.int x1)]) dX11_streetOf_25 rfl ?_
      refine ex_step (pc' := 28) (st' := [.int 2]) dX11_streetOf_27 rfl ?_
      refine ex_step (pc' := 30) dX11_streetOf_28 rfl ?_
      refine ex_step (pc' := 32) (st' := [.int 12, .int x1, .int 2]) dX11_streetOf_30 rfl ?_
      refine ex_step (pc' := 33) dX11_streetOf_32 rfl ?_
      refine ex_step (pc' := 34) dX11_streetOf_33 rfl ?_
      refine ex_step (pc' := 35) dX11_streetOf_34 rfl ?_
      refine ex_step (pc' := 36) dX11_streetOf_35 rfl ?_
      refine ex_step (pc' := 37) dX11_streetOf_36 rfl ?_
      refine ex_step (pc' := 38) (st' := [.int 1, .int x2, .int ((2 : Int32) * ((x1 * 12) + x0))]) dX11_streetOf_37 rfl ?_
      refine ex_step (pc' := 39) dX11_streetOf_38 rfl ?_
      refine ex_step (pc' := 40) dX11_streetOf_39 rfl ?_
      rw [h]; exact ex_ret (v := some (.int (((2 : Int32) * ((x1 * 12) + x0)) + (x2 &&& 1)))) ⟨dX11_streetOf_40, _, rfl, rfl⟩
    · have h := h.2 (Classical.not_not.mp c)
      refine ex_step (pc' := 19) dX11_streetOf_18 rfl ?_
      refine ex_step (pc' := 20) (st' := [.int 1, .int x1]) dX11_streetOf_19 rfl ?_
      refine ex_step (pc' := 21) dX11_streetOf_20 rfl ?_
      refine ex_step (pc' := 25) dX11_streetOf_21 rfl ?_
      refine ex_step (pc' := 27) (ls' := [some (.int x0), some (.int x1), some (.int x2), some (.int x0), some (.int (x1 - 1))]) dX11_streetOf_25 rfl ?_
      refine ex_step (pc' := 28) (st' := [.int 2]) dX11_streetOf_27 rfl ?_
      refine ex_step (pc' := 30) dX11_streetOf_28 rfl ?_
      refine ex_step (pc' := 32) (st' := [.int 12, .int (x1 - 1), .int 2]) dX11_streetOf_30 rfl ?_
      refine ex_step (pc' := 33) dX11_streetOf_32 rfl ?_
      refine ex_step (pc' := 34) dX11_streetOf_33 rfl ?_
      refine ex_step (pc' := 35) dX11_streetOf_34 rfl ?_
      refine ex_step (pc' := 36) dX11_streetOf_35 rfl ?_
      refine ex_step (pc' := 37) dX11_streetOf_36 rfl ?_
      refine ex_step (pc' := 38) (st' := [.int 1, .int x2, .int ((2 : Int32) * (((x1 - 1) * 12) + x0))]) dX11_streetOf_37 rfl ?_
      refine ex_step (pc' := 39) dX11_streetOf_38 rfl ?_
      refine ex_step (pc' := 40) dX11_streetOf_39 rfl ?_
      rw [h]; exact ex_ret (v := some (.int (((2 : Int32) * (((x1 - 1) * 12) + x0)) + (x2 &&& 1)))) ⟨dX11_streetOf_40, _, rfl, rfl⟩
  · have h := h.2 (Classical.not_not.mp c)
    refine ex_step (pc' := 6) dX11_streetOf_5 rfl ?_
    refine ex_step (pc' := 7) (st' := [.int 1, .int x0]) dX11_streetOf_6 rfl ?_
    refine ex_step (pc' := 8) dX11_streetOf_7 rfl ?_
    refine ex_step (pc' := 12) dX11_streetOf_8 rfl ?_
    refine ex_step (pc' := 13) (ls' := [some (.int x0), some (.int x1), some (.int x2), some (.int (x0 - 1)), none]) dX11_streetOf_12 rfl ?_
    refine ex_step (pc' := 14) dX11_streetOf_13 rfl ?_
    refine ex_step (pc' := 15) (st' := [.int 3, .int x2]) dX11_streetOf_14 rfl ?_
    refine ex_icmp (pc' := 24) dX11_streetOf_15 (by decide) (fun c => ?_) (fun c => ?_)
    · have h := h.1 c
      refine ex_step (pc' := 25) dX11_streetOf_24 rfl ?_
      refine ex_step (pc' := 27) (ls' := [some (.int x0), some (.int x1), some (.int x2), some (.int (x0 - 1)), some (.int x1)]) dX11_streetOf_25 rfl ?_
      refine ex_step (pc' := 28) (st' := [.int 2]) dX11_streetOf_27 rfl ?_
      refine ex_step (pc' := 30) dX11_streetOf_28 rfl ?_
      refine ex_step (pc' := 32) (st' := [.int 12, .int x1, .int 2]) dX11_streetOf_30 rfl ?_
      refine ex_step (pc' := 33) dX11_streetOf_32 rfl ?_
      refine ex_step (pc' := 34) dX11_streetOf_33 rfl ?_
      refine ex_step (pc' := 35) dX11_streetOf_34 rfl ?_
      refine ex_step (pc' := 36) dX11_streetOf_35 rfl ?_
      refine ex_step (pc' := 37) dX11_streetOf_36 rfl ?_
      refine ex_step (pc' := 38) (st' := [.int 1, .int x2, .int ((2 : Int32) * ((x1 * 12) + (x0 - 1)))]) dX11_streetOf_37 rfl ?_
      refine ex_step (pc' := 39) dX11_streetOf_38 rfl ?_
      refine ex_step (pc' := 40) dX11_streetOf_39 rfl ?_
      rw [h]; exact ex_ret (v := some (.int (((2 : Int32) * ((x1 * 12) + (x0 - 1))) + (x2 &&& 1)))) ⟨dX11_streetOf_40, _, rfl, rfl⟩
    · have h := h.2 (Classical.not_not.mp c)
      refine ex_step (pc' := 19) dX11_streetOf_18 rfl ?_
      refine ex_step (pc' := 20) (st' := [.int 1, .int x1]) dX11_streetOf_19 rfl ?_
      refine ex_step (pc' := 21) dX11_streetOf_20 rfl ?_
      refine ex_step (pc' := 25) dX11_streetOf_21 rfl ?_
      refine ex_step (pc' := 27) (ls' := [some (.int x0), some (.int x1), some (.int x2), some (.int (x0 - 1)), some (.int (x1 - 1))]) dX11_streetOf_25 rfl ?_
      refine ex_step (pc' := 28) (st' := [.int 2]) dX11_streetOf_27 rfl ?_
      refine ex_step (pc' := 30) dX11_streetOf_28 rfl ?_
      refine ex_step (pc' := 32) (st' := [.int 12, .int (x1 - 1), .int 2]) dX11_streetOf_30 rfl ?_
      refine ex_step (pc' := 33) dX11_streetOf_32 rfl ?_
      refine ex_step (pc' := 34) dX11_streetOf_33 rfl ?_
      refine ex_step (pc' := 35) dX11_streetOf_34 rfl ?_
      refine ex_step (pc' := 36) dX11_streetOf_35 rfl ?_
      refine ex_step (pc' := 37) dX11_streetOf_36 rfl ?_
      refine ex_step (pc' := 38) (st' := [.int 1, .int x2, .int ((2 : Int32) * (((x1 - 1) * 12) + (x0 - 1)))]) dX11_streetOf_37 rfl ?_
      refine ex_step (pc' := 39) dX11_streetOf_38 rfl ?_
      refine ex_step (pc' := 40) dX11_streetOf_39 rfl ?_
      rw [h]; exact ex_ret (v := some (.int (((2 : Int32) * (((x1 - 1) * 12) + (x0 - 1))) + (x2 &&& 1)))) ⟨dX11_streetOf_40, _, rfl, rfl⟩
set_option maxHeartbeats 4000000 in
theorem BX11_stir_0 {d : Nat} {Z : zZ} {I : zI} {J : zJ} {o : zO} (x0 : Int32) (x1 : Int32)  (h : (∀ y1 : Int32, y1 = (((x0 ^^^ x1) * 1103515245) + 12345) → o = (some (.int (y1 ^^^ ((y1.toUInt32 >>> (Int32.toUInt32 15 &&& Int32.toUInt32 31)).toInt32))), Z, I, J))) : zE d kX11_stir 0 [some (.int x0), some (.int x1), none] [] Z I J o := by
  refine ex_step (pc' := 1) dX11_stir_0 rfl ?_
  refine ex_step (pc' := 2) dX11_stir_1 rfl ?_
  refine ex_step (pc' := 3) dX11_stir_2 rfl ?_
  refine ex_ldcw dX11_stir_3 zk_RX11_399 ?_
  refine ex_step (pc' := 7) dX11_stir_6 rfl ?_
  refine ex_step (pc' := 10) (st' := [.int 12345, .int ((x0 ^^^ x1) * 1103515245)]) dX11_stir_7 rfl ?_
  refine ex_step (pc' := 11) dX11_stir_10 rfl ?_
  refine ex_topi (fun y1 ey1 => ?_)
  have h := h y1 ey1
  refine ex_step (pc' := 12) (ls' := [some (.int x0), some (.int x1), some (.int y1)]) dX11_stir_11 rfl ?_
  refine ex_step (pc' := 13) dX11_stir_12 rfl ?_
  refine ex_step (pc' := 14) dX11_stir_13 rfl ?_
  refine ex_step (pc' := 16) (st' := [.int 15, .int y1, .int y1]) dX11_stir_14 rfl ?_
  refine ex_step (pc' := 17) (st' := [.int ((y1.toUInt32 >>> (Int32.toUInt32 15 &&& Int32.toUInt32 31)).toInt32), .int y1]) dX11_stir_16 rfl ?_
  refine ex_step (pc' := 18) dX11_stir_17 rfl ?_
  rw [h]; exact ex_ret (v := some (.int (y1 ^^^ ((y1.toUInt32 >>> (Int32.toUInt32 15 &&& Int32.toUInt32 31)).toInt32)))) ⟨dX11_stir_18, _, rfl, rfl⟩
set_option maxHeartbeats 4000000 in
theorem BJ7_fill_53178_0 {d : Nat} {Z : zZ} {I : zI} {J : zJ} {o : zO} {a0 n0 : Nat} (x1 : Int32) (ha0 : zis Z a0 1 n0) (h : zE d kJ7_fill_53178 5 [some (.ref a0), some (.int x1), some (.int 0), some (.int (Int32.ofNat n0))] [] Z I J o) : zE d kJ7_fill_53178 0 [some (.ref a0), some (.int x1), none, none] [] Z I J o := by
  refine ex_step (pc' := 1) (st' := [.int 0]) dJ7_fill_53178_0 rfl ?_
  refine ex_step (pc' := 2) (ls' := [some (.ref a0), some (.int x1), some (.int 0), none]) dJ7_fill_53178_1 rfl ?_
  refine ex_step (pc' := 3) dJ7_fill_53178_2 rfl ?_
  refine ex_alen dJ7_fill_53178_3 (Or.inl ⟨ha0, by decide, by decide⟩) ?_
  refine ex_step (pc' := 5) (ls' := [some (.ref a0), some (.int x1), some (.int 0), some (.int (Int32.ofNat n0))]) dJ7_fill_53178_4 rfl ?_
  exact h
set_option maxHeartbeats 4000000 in
theorem BJ7_fill_53178_5 {d : Nat} {Z : zZ} {I : zI} {J : zJ} {o : zO} {a0 n0 : Nat} (x1 : Int32) (x2 : Int32) (x3 : Int32) (ha0 : zis Z a0 1 n0) (h : ((x3 ≤ x2 → o = (none, Z, I, J)) ∧ (¬ x3 ≤ x2 → (vp_in x2 n0 ∧ (∀ I1 : zI, I1 = zu I a0 x2.toNatClampNeg x1 → zE d kJ7_fill_53178 5 [some (.ref a0), some (.int x1), some (.int (x2 + 1)), some (.int x3)] [] Z I1 J o))))) : zE d kJ7_fill_53178 5 [some (.ref a0), some (.int x1), some (.int x2), some (.int x3)] [] Z I J o := by
  refine ex_step (pc' := 6) dJ7_fill_53178_5 rfl ?_
  refine ex_step (pc' := 7) dJ7_fill_53178_6 rfl ?_
  refine ex_icmp (pc' := 20) dJ7_fill_53178_7 (by decide) (fun c => ?_) (fun c => ?_)
  · have h := h.1 c
    rw [h]; exact ex_ret (v := none) ⟨dJ7_fill_53178_20, rfl⟩
  · have h := h.2 c
    refine ex_step (pc' := 11) dJ7_fill_53178_10 rfl ?_
    refine ex_step (pc' := 12) dJ7_fill_53178_11 rfl ?_
    refine ex_step (pc' := 13) dJ7_fill_53178_12 rfl ?_
    obtain ⟨hv, h⟩ := h
    refine ex_iastN dJ7_fill_53178_13 ha0 hv (fun I1 eI1 => ?_)
    have h := h I1 eI1
    refine ex_step (pc' := 17) (ls' := [some (.ref a0), some (.int x1), some (.int (x2 + 1)), some (.int x3)]) dJ7_fill_53178_14 rfl ?_
    refine ex_step (pc' := 5) dJ7_fill_53178_17 rfl ?_
    exact h
set_option maxHeartbeats 4000000 in
theorem BJ6_bitCount_0f7a4_0 {d : Nat} {Z : zZ} {I : zI} {J : zJ} {o : zO} (x0 : Int32)  (h : (∀ y1 : Int32, y1 = (x0 - (((x0.toUInt32 >>> (Int32.toUInt32 1 &&& Int32.toUInt32 31)).toInt32) &&& 1431655765)) → (∀ y2 : Int32, y2 = ((y1 &&& 858993459) + (((y1.toUInt32 >>> (Int32.toUInt32 2 &&& Int32.toUInt32 31)).toInt32) &&& 858993459)) → (∀ y3 : Int32, y3 = ((y2 + ((y2.toUInt32 >>> (Int32.toUInt32 4 &&& Int32.toUInt32 31)).toInt32)) &&& 252645135) → (∀ y4 : Int32, y4 = (y3 + ((y3.toUInt32 >>> (Int32.toUInt32 8 &&& Int32.toUInt32 31)).toInt32)) → (∀ y5 : Int32, y5 = (y4 + ((y4.toUInt32 >>> (Int32.toUInt32 16 &&& Int32.toUInt32 31)).toInt32)) → o = (some (.int (y5 &&& 63)), Z, I, J))))))) : zE d kJ6_bitCount_0f7a4 0 [some (.int x0)] [] Z I J o := by
  refine ex_step (pc' := 1) dJ6_bitCount_0f7a4_0 rfl ?_
  refine ex_step (pc' := 2) dJ6_bitCount_0f7a4_1 rfl ?_
  refine ex_step (pc' := 3) (st' := [.int 1, .int x0, .int x0]) dJ6_bitCount_0f7a4_2 rfl ?_
  refine ex_step (pc' := 4) (st' := [.int ((x0.toUInt32 >>> (Int32.toUInt32 1 &&& Int32.toUInt32 31)).toInt32), .int x0]) dJ6_bitCount_0f7a4_3 rfl ?_
  refine ex_ldcw dJ6_bitCount_0f7a4_4 zk_RJ6_265 ?_
  refine ex_step (pc' := 8) dJ6_bitCount_0f7a4_7 rfl ?_
  refine ex_step (pc' := 9) dJ6_bitCount_0f7a4_8 rfl ?_
  refine ex_topi (fun y1 ey1 => ?_)
  have h := h y1 ey1
  refine ex_step (pc' := 10) (ls' := [some (.int y1)]) dJ6_bitCount_0f7a4_9 rfl ?_
  refine ex_step (pc' := 11) dJ6_bitCount_0f7a4_10 rfl ?_
  refine ex_ldcw dJ6_bitCount_0f7a4_11 zk_RJ6_266 ?_
  refine ex_step (pc' := 15) dJ6_bitCount_0f7a4_14 rfl ?_
  refine ex_step (pc' := 16) dJ6_bitCount_0f7a4_15 rfl ?_
  refine ex_step (pc' := 17) (st' := [.int 2, .int y1, .int (y1 &&& 858993459)]) dJ6_bitCount_0f7a4_16 rfl ?_
  refine ex_step (pc' := 18) (st' := [.int ((y1.toUInt32 >>> (Int32.toUInt32 2 &&& Int32.toUInt32 31)).toInt32), .int (y1 &&& 858993459)]) dJ6_bitCount_0f7a4_17 rfl ?_
  refine ex_ldcw dJ6_bitCount_0f7a4_18 zk_RJ6_266 ?_
  refine ex_step (pc' := 22) dJ6_bitCount_0f7a4_21 rfl ?_
  refine ex_step (pc' := 23) dJ6_bitCount_0f7a4_22 rfl ?_
  refine ex_topi (fun y2 ey2 => ?_)
  have h := h y2 ey2
  refine ex_step (pc' := 24) (ls' := [some (.int y2)]) dJ6_bitCount_0f7a4_23 rfl ?_
  refine ex_step (pc' := 25) dJ6_bitCount_0f7a4_24 rfl ?_
  refine ex_step (pc' := 26) dJ6_bitCount_0f7a4_25 rfl ?_
  refine ex_step (pc' := 27) (st' := [.int 4, .int y2, .int y2]) dJ6_bitCount_0f7a4_26 rfl ?_
  refine ex_step (pc' := 28) (st' := [.int ((y2.toUInt32 >>> (Int32.toUInt32 4 &&& Int32.toUInt32 31)).toInt32), .int y2]) dJ6_bitCount_0f7a4_27 rfl ?_
  refine ex_step (pc' := 29) dJ6_bitCount_0f7a4_28 rfl ?_
  refine ex_ldcw dJ6_bitCount_0f7a4_29 zk_RJ6_267 ?_
  refine ex_step (pc' := 33) dJ6_bitCount_0f7a4_32 rfl ?_
  refine ex_topi (fun y3 ey3 => ?_)
  have h := h y3 ey3
  refine ex_step (pc' := 34) (ls' := [some (.int y3)]) dJ6_bitCount_0f7a4_33 rfl ?_
  refine ex_step (pc' := 35) dJ6_bitCount_0f7a4_34 rfl ?_
  refine ex_step (pc' := 36) dJ6_bitCount_0f7a4_35 rfl ?_
  refine ex_step (pc' := 38) (st' := [.int 8, .int y3, .int y3]) dJ6_bitCount_0f7a4_36 rfl ?_
  refine ex_step (pc' := 39) (st' := [.int ((y3.toUInt32 >>> (Int32.toUInt32 8 &&& Int32.toUInt32 31)).toInt32), .int y3]) dJ6_bitCount_0f7a4_38 rfl ?_
  refine ex_step (pc' := 40) dJ6_bitCount_0f7a4_39 rfl ?_
  refine ex_topi (fun y4 ey4 => ?_)
  have h := h y4 ey4
  refine ex_step (pc' := 41) (ls' := [some (.int y4)]) dJ6_bitCount_0f7a4_40 rfl ?_
  refine ex_step (pc' := 42) dJ6_bitCount_0f7a4_41 rfl ?_
  refine ex_step (pc' := 43) dJ6_bitCount_0f7a4_42 rfl ?_
  refine ex_step (pc' := 45) (st' := [.int 16, .int y4, .int y4]) dJ6_bitCount_0f7a4_43 rfl ?_
  refine ex_step (pc' := 46) (st' := [.int ((y4.toUInt32 >>> (Int32.toUInt32 16 &&& Int32.toUInt32 31)).toInt32), .int y4]) dJ6_bitCount_0f7a4_45 rfl ?_
  refine ex_step (pc' := 47) dJ6_bitCount_0f7a4_46 rfl ?_
  refine ex_topi (fun y5 ey5 => ?_)
  have h := h y5 ey5
  refine ex_step (pc' := 48) (ls' := [some (.int y5)]) dJ6_bitCount_0f7a4_47 rfl ?_
  refine ex_step (pc' := 49) dJ6_bitCount_0f7a4_48 rfl ?_
  refine ex_step (pc' := 51) (st' := [.int 63, .int y5]) dJ6_bitCount_0f7a4_49 rfl ?_
  refine ex_step (pc' := 52) dJ6_bitCount_0f7a4_51 rfl ?_
  rw [h]; exact ex_ret (v := some (.int (y5 &&& 63))) ⟨dJ6_bitCount_0f7a4_52, _, rfl, rfl⟩
set_option maxHeartbeats 4000000 in
theorem BX5_bindingOf_0 {d : Nat} {Z : zZ} {I : zI} {J : zJ} {o : zO} (x0 : Int32)  (h : ((x0 = 42 → o = (some (.int 2), Z, I, J)) ∧ (¬ x0 = 42 → ((¬ x0 = 47 → ((x0 = 43 → o = (some (.int 1), Z, I, J)) ∧ (¬ x0 = 43 → ((¬ x0 = 45 → o = (some (.int 0), Z, I, J)) ∧ (x0 = 45 → o = (some (.int 1), Z, I, J)))))) ∧ (x0 = 47 → o = (some (.int 2), Z, I, J)))))) : zE d kX5_bindingOf 0 [some (.int x0)] [] Z I J o := by
  refine ex_step (pc' := 1) dX5_bindingOf_0 rfl ?_
  refine ex_step (pc' := 3) (st' := [.int 42, .int x0]) dX5_bindingOf_1 rfl ?_
  refine ex_icmp (pc' := 12) dX5_bindingOf_3 (by decide) (fun c => ?_) (fun c => ?_)
  · have h := h.1 c
    refine ex_step (pc' := 13) (st' := [.int 2]) dX5_bindingOf_12 rfl ?_
    rw [h]; exact ex_ret (v := some (.int 2)) ⟨dX5_bindingOf_13, _, rfl, rfl⟩
  · have h := h.2 c
    refine ex_step (pc' := 7) dX5_bindingOf_6 rfl ?_
    refine ex_step (pc' := 9) (st' := [.int 47, .int x0]) dX5_bindingOf_7 rfl ?_
    refine ex_icmp (pc' := 14) dX5_bindingOf_9 (by decide) (fun c => ?_) (fun c => ?_)
    · have h := h.1 c
      refine ex_step (pc' := 15) dX5_bindingOf_14 rfl ?_
      refine ex_step (pc' := 17) (st' := [.int 43, .int x0]) dX5_bindingOf_15 rfl ?_
      refine ex_icmp (pc' := 26) dX5_bindingOf_17 (by decide) (fun c => ?_) (fun c => ?_)
      · have h := h.1 c
        refine ex_step (pc' := 27) (st' := [.int 1]) dX5_bindingOf_26 rfl ?_
        refine ex_step (pc' := 31) dX5_bindingOf_27 rfl ?_
        rw [h]; exact ex_ret (v := some (.int 1)) ⟨dX5_bindingOf_31, _, rfl, rfl⟩
      · have h := h.2 c
        refine ex_step (pc' := 21) dX5_bindingOf_20 rfl ?_
        refine ex_step (pc' := 23) (st' := [.int 45, .int x0]) dX5_bindingOf_21 rfl ?_
        refine ex_icmp (pc' := 30) dX5_bindingOf_23 (by decide) (fun c => ?_) (fun c => ?_)
        · have h := h.1 c
          refine ex_step (pc' := 31) (st' := [.int 0]) dX5_bindingOf_30 rfl ?_
          rw [h]; exact ex_ret (v := some (.int 0)) ⟨dX5_bindingOf_31, _, rfl, rfl⟩
        · have h := h.2 (Classical.not_not.mp c)
          refine ex_step (pc' := 27) (st' := [.int 1]) dX5_bindingOf_26 rfl ?_
          refine ex_step (pc' := 31) dX5_bindingOf_27 rfl ?_
          rw [h]; exact ex_ret (v := some (.int 1)) ⟨dX5_bindingOf_31, _, rfl, rfl⟩
    · have h := h.2 (Classical.not_not.mp c)
      refine ex_step (pc' := 13) (st' := [.int 2]) dX5_bindingOf_12 rfl ?_
      rw [h]; exact ex_ret (v := some (.int 2)) ⟨dX5_bindingOf_13, _, rfl, rfl⟩
set_option maxHeartbeats 4000000 in
theorem BX2_reckon_0 {d : Nat} {Z : zZ} {I : zI} {J : zJ} {o : zO} (x0 : Int32) (x1 : Int32) (x2 : Int32)  (h : ((x0.toInt < 42 ∨ 45 < x0.toInt → ((¬ x2 = 0 → (¬ x2 = 0 ∧ o = (some (.int (x1 / x2)), Z, I, J))) ∧ (x2 = 0 → o = (some (.int 0), Z, I, J)))) ∧ (x0 = 42 → o = (some (.int (x1 * x2)), Z, I, J)) ∧ (x0 = 43 → o = (some (.int (x1 + x2)), Z, I, J)) ∧ (x0 = 44 → ((¬ x2 = 0 → (¬ x2 = 0 ∧ o = (some (.int (x1 / x2)), Z, I, J))) ∧ (x2 = 0 → o = (some (.int 0), Z, I, J)))) ∧ (x0 = 45 → o = (some (.int (x1 - x2)), Z, I, J)))) : zE d kX2_reckon 0 [some (.int x0), some (.int x1), some (.int x2)] [] Z I J o := by
  refine ex_step (pc' := 1) dX2_reckon_0 rfl ?_
  refine ex_tab dX2_reckon_1 (fun c => ?_) (fun k off hk ho hx => ?_)
  · refine ⟨44, by decide, ?_⟩
    have h := h.1 c
    refine ex_step (pc' := 45) dX2_reckon_44 rfl ?_
    refine ex_if (pc' := 52) dX2_reckon_45 (by decide) (fun c => ?_) (fun c => ?_)
    · have h := h.1 c
      refine ex_step (pc' := 53) dX2_reckon_52 rfl ?_
      refine ex_step (pc' := 54) dX2_reckon_53 rfl ?_
      obtain ⟨hz, h⟩ := h
      refine ex_div dX2_reckon_54 hz ?_
      rw [h]; exact ex_ret (v := some (.int (x1 / x2))) ⟨dX2_reckon_55, _, rfl, rfl⟩
    · have h := h.2 (Classical.not_not.mp c)
      refine ex_step (pc' := 49) (st' := [.int 0]) dX2_reckon_48 rfl ?_
      refine ex_step (pc' := 55) dX2_reckon_49 rfl ?_
      rw [h]; exact ex_ret (v := some (.int 0)) ⟨dX2_reckon_55, _, rfl, rfl⟩
  · have h := h.2
    match k, hk, ho, hx with
    | 0, hk, ho, hx =>
      cases ho
      refine ⟨40, by decide, ?_⟩
      have h := h.1 (Int32.toInt_inj.mp (hx.trans (by decide)))
      refine ex_step (pc' := 41) dX2_reckon_40 rfl ?_
      refine ex_step (pc' := 42) dX2_reckon_41 rfl ?_
      refine ex_step (pc' := 43) dX2_reckon_42 rfl ?_
      rw [h]; exact ex_ret (v := some (.int (x1 * x2))) ⟨dX2_reckon_43, _, rfl, rfl⟩
    | 1, hk, ho, hx =>
      cases ho
      refine ⟨32, by decide, ?_⟩
      have h := h.2.1 (Int32.toInt_inj.mp (hx.trans (by decide)))
      refine ex_step (pc' := 33) dX2_reckon_32 rfl ?_
      refine ex_step (pc' := 34) dX2_reckon_33 rfl ?_
      refine ex_step (pc' := 35) dX2_reckon_34 rfl ?_
      rw [h]; exact ex_ret (v := some (.int (x1 + x2))) ⟨dX2_reckon_35, _, rfl, rfl⟩
    | 2, hk, ho, hx =>
      cases ho
      refine ⟨44, by decide, ?_⟩
      have h := h.2.2.1 (Int32.toInt_inj.mp (hx.trans (by decide)))
      refine ex_step (pc' := 45) dX2_reckon_44 rfl ?_
      refine ex_if (pc' := 52) dX2_reckon_45 (by decide) (fun c => ?_) (fun c => ?_)
      · have h := h.1 c
        refine ex_step (pc' := 53) dX2_reckon_52 rfl ?_
        refine ex_step (pc' := 54) dX2_reckon_53 rfl ?_
        obtain ⟨hz, h⟩ := h
        refine ex_div dX2_reckon_54 hz ?_
        rw [h]; exact ex_ret (v := some (.int (x1 / x2))) ⟨dX2_reckon_55, _, rfl, rfl⟩
      · have h := h.2 (Classical.not_not.mp c)
        refine ex_step (pc' := 49) (st' := [.int 0]) dX2_reckon_48 rfl ?_
        refine ex_step (pc' := 55) dX2_reckon_49 rfl ?_
        rw [h]; exact ex_ret (v := some (.int 0)) ⟨dX2_reckon_55, _, rfl, rfl⟩
    | 3, hk, ho, hx =>
      cases ho
      refine ⟨36, by decide, ?_⟩
      have h := h.2.2.2 (Int32.toInt_inj.mp (hx.trans (by decide)))
      refine ex_step (pc' := 37) dX2_reckon_36 rfl ?_
      refine ex_step (pc' := 38) dX2_reckon_37 rfl ?_
      refine ex_step (pc' := 39) dX2_reckon_38 rfl ?_
      rw [h]; exact ex_ret (v := some (.int (x1 - x2))) ⟨dX2_reckon_39, _, rfl, rfl⟩
    | (k + 4), hk, ho, hx => exact absurd hk (by simp)
set_option maxHeartbeats 4000000 in
theorem BX8_isBlank_0 {d : Nat} {Z : zZ} {I : zI} {J : zJ} {o : zO} (x0 : Int32)  (h : ((x0 = 9 → o = (some (.int 1), Z, I, J)) ∧ (¬ x0 = 9 → ((x0 = 10 → o = (some (.int 1), Z, I, J)) ∧ (¬ x0 = 10 → ((x0 = 13 → o = (some (.int 1), Z, I, J)) ∧ (¬ x0 = 13 → ((¬ x0 = 32 → o = (some (.int 0), Z, I, J)) ∧ (x0 = 32 → o = (some (.int 1), Z, I, J)))))))))) : zE d kX8_isBlank 0 [some (.int x0)] [] Z I J o := by
  refine ex_step (pc' := 1) dX8_isBlank_0 rfl ?_
  refine ex_step (pc' := 3) (st' := [.int 9, .int x0]) dX8_isBlank_1 rfl ?_
  refine ex_icmp (pc' := 24) dX8_isBlank_3 (by decide) (fun c => ?_) (fun c => ?_)
  · have h := h.1 c
    refine ex_step (pc' := 25) (st' := [.int 1]) dX8_isBlank_24 rfl ?_
    refine ex_step (pc' := 29) dX8_isBlank_25 rfl ?_
    rw [h]; exact ex_ret (v := some (.int 1)) ⟨dX8_isBlank_29, _, rfl, rfl⟩
  · have h := h.2 c
    refine ex_step (pc' := 7) dX8_isBlank_6 rfl ?_
    refine ex_step (pc' := 9) (st' := [.int 10, .int x0]) dX8_isBlank_7 rfl ?_
    refine ex_icmp (pc' := 24) dX8_isBlank_9 (by decide) (fun c => ?_) (fun c => ?_)
    · have h := h.1 c
      refine ex_step (pc' := 25) (st' := [.int 1]) dX8_isBlank_24 rfl ?_
      refine ex_step (pc' := 29) dX8_isBlank_25 rfl ?_
      rw [h]; exact ex_ret (v := some (.int 1)) ⟨dX8_isBlank_29, _, rfl, rfl⟩
    · have h := h.2 c
      refine ex_step (pc' := 13) dX8_isBlank_12 rfl ?_
      refine ex_step (pc' := 15) (st' := [.int 13, .int x0]) dX8_isBlank_13 rfl ?_
      refine ex_icmp (pc' := 24) dX8_isBlank_15 (by decide) (fun c => ?_) (fun c => ?_)
      · have h := h.1 c
        refine ex_step (pc' := 25) (st' := [.int 1]) dX8_isBlank_24 rfl ?_
        refine ex_step (pc' := 29) dX8_isBlank_25 rfl ?_
        rw [h]; exact ex_ret (v := some (.int 1)) ⟨dX8_isBlank_29, _, rfl, rfl⟩
      · have h := h.2 c
        refine ex_step (pc' := 19) dX8_isBlank_18 rfl ?_
        refine ex_step (pc' := 21) (st' := [.int 32, .int x0]) dX8_isBlank_19 rfl ?_
        refine ex_icmp (pc' := 28) dX8_isBlank_21 (by decide) (fun c => ?_) (fun c => ?_)
        · have h := h.1 c
          refine ex_step (pc' := 29) (st' := [.int 0]) dX8_isBlank_28 rfl ?_
          rw [h]; exact ex_ret (v := some (.int 0)) ⟨dX8_isBlank_29, _, rfl, rfl⟩
        · have h := h.2 (Classical.not_not.mp c)
          refine ex_step (pc' := 25) (st' := [.int 1]) dX8_isBlank_24 rfl ?_
          refine ex_step (pc' := 29) dX8_isBlank_25 rfl ?_
          rw [h]; exact ex_ret (v := some (.int 1)) ⟨dX8_isBlank_29, _, rfl, rfl⟩
set_option maxHeartbeats 4000000 in
theorem BX8_isLetter_0 {d : Nat} {Z : zZ} {I : zI} {J : zJ} {o : zO} (x0 : Int32)  (h : ((x0 < 97 → o = (some (.int 0), Z, I, J)) ∧ (¬ x0 < 97 → ((122 < x0 → o = (some (.int 0), Z, I, J)) ∧ (¬ 122 < x0 → o = (some (.int 1), Z, I, J)))))) : zE d kX8_isLetter 0 [some (.int x0)] [] Z I J o := by
  refine ex_step (pc' := 1) dX8_isLetter_0 rfl ?_
  refine ex_step (pc' := 3) (st' := [.int 97, .int x0]) dX8_isLetter_1 rfl ?_
  refine ex_icmp (pc' := 16) dX8_isLetter_3 (by decide) (fun c => ?_) (fun c => ?_)
  · have h := h.1 c
    refine ex_step (pc' := 17) (st' := [.int 0]) dX8_isLetter_16 rfl ?_
    rw [h]; exact ex_ret (v := some (.int 0)) ⟨dX8_isLetter_17, _, rfl, rfl⟩
  · have h := h.2 c
    refine ex_step (pc' := 7) dX8_isLetter_6 rfl ?_
    refine ex_step (pc' := 9) (st' := [.int 122, .int x0]) dX8_isLetter_7 rfl ?_
    refine ex_icmp (pc' := 16) dX8_isLetter_9 (by decide) (fun c => ?_) (fun c => ?_)
    · have h := h.1 c
      refine ex_step (pc' := 17) (st' := [.int 0]) dX8_isLetter_16 rfl ?_
      rw [h]; exact ex_ret (v := some (.int 0)) ⟨dX8_isLetter_17, _, rfl, rfl⟩
    · have h := h.2 c
      refine ex_step (pc' := 13) (st' := [.int 1]) dX8_isLetter_12 rfl ?_
      refine ex_step (pc' := 17) dX8_isLetter_13 rfl ?_
      rw [h]; exact ex_ret (v := some (.int 1)) ⟨dX8_isLetter_17, _, rfl, rfl⟩
set_option maxHeartbeats 4000000 in
theorem BX8_isDigit_0 {d : Nat} {Z : zZ} {I : zI} {J : zJ} {o : zO} (x0 : Int32)  (h : ((x0 < 48 → o = (some (.int 0), Z, I, J)) ∧ (¬ x0 < 48 → ((57 < x0 → o = (some (.int 0), Z, I, J)) ∧ (¬ 57 < x0 → o = (some (.int 1), Z, I, J)))))) : zE d kX8_isDigit 0 [some (.int x0)] [] Z I J o := by
  refine ex_step (pc' := 1) dX8_isDigit_0 rfl ?_
  refine ex_step (pc' := 3) (st' := [.int 48, .int x0]) dX8_isDigit_1 rfl ?_
  refine ex_icmp (pc' := 16) dX8_isDigit_3 (by decide) (fun c => ?_) (fun c => ?_)
  · have h := h.1 c
    refine ex_step (pc' := 17) (st' := [.int 0]) dX8_isDigit_16 rfl ?_
    rw [h]; exact ex_ret (v := some (.int 0)) ⟨dX8_isDigit_17, _, rfl, rfl⟩
  · have h := h.2 c
    refine ex_step (pc' := 7) dX8_isDigit_6 rfl ?_
    refine ex_step (pc' := 9) (st' := [.int 57, .int x0]) dX8_isDigit_7 rfl ?_
    refine ex_icmp (pc' := 16) dX8_isDigit_9 (by decide) (fun c => ?_) (fun c => ?_)
    · have h := h.1 c
      refine ex_step (pc' := 17) (st' := [.int 0]) dX8_isDigit_16 rfl ?_
      rw [h]; exact ex_ret (v := some (.int 0)) ⟨dX8_isDigit_17, _, rfl, rfl⟩
    · have h := h.2 c
      refine ex_step (pc' := 13) (st' := [.int 1]) dX8_isDigit_12 rfl ?_
      refine ex_step (pc' := 17) dX8_isDigit_13 rfl ?_
      rw [h]; exact ex_ret (v := some (.int 1)) ⟨dX8_isDigit_17, _, rfl, rfl⟩
set_option maxHeartbeats 4000000 in
theorem BX12_in_0 {d : Nat} {Z : zZ} {I : zI} {J : zJ} {o : zO} (x0 : Int32) (x1 : Int32) (x2 : Int32)  (h : ((x0 < x1 → o = (some (.int 0), Z, I, J)) ∧ (¬ x0 < x1 → ((x2 < x0 → o = (some (.int 0), Z, I, J)) ∧ (¬ x2 < x0 → o = (some (.int 1), Z, I, J)))))) : zE d kX12_in 0 [some (.int x0), some (.int x1), some (.int x2)] [] Z I J o := by
  refine ex_step (pc' := 1) dX12_in_0 rfl ?_
  refine ex_step (pc' := 2) dX12_in_1 rfl ?_
  refine ex_icmp (pc' := 14) dX12_in_2 (by decide) (fun c => ?_) (fun c => ?_)
  · have h := h.1 c
    refine ex_step (pc' := 15) (st' := [.int 0]) dX12_in_14 rfl ?_
    rw [h]; exact ex_ret (v := some (.int 0)) ⟨dX12_in_15, _, rfl, rfl⟩
  · have h := h.2 c
    refine ex_step (pc' := 6) dX12_in_5 rfl ?_
    refine ex_step (pc' := 7) dX12_in_6 rfl ?_
    refine ex_icmp (pc' := 14) dX12_in_7 (by decide) (fun c => ?_) (fun c => ?_)
    · have h := h.1 c
      refine ex_step (pc' := 15) (st' := [.int 0]) dX12_in_14 rfl ?_
      rw [h]; exact ex_ret (v := some (.int 0)) ⟨dX12_in_15, _, rfl, rfl⟩
    · have h := h.2 c
      refine ex_step (pc' := 11) (st' := [.int 1]) dX12_in_10 rfl ?_
      refine ex_step (pc' := 15) dX12_in_11 rfl ?_
      rw [h]; exact ex_ret (v := some (.int 1)) ⟨dX12_in_15, _, rfl, rfl⟩
set_option maxHeartbeats 4000000 in
theorem BX12_isDigit_0 {d : Nat} {Z : zZ} {I : zI} {J : zJ} {o : zO} (x0 : Int32)  (h : ((x0 < 48 → o = (some (.int 0), Z, I, J)) ∧ (¬ x0 < 48 → ((57 < x0 → o = (some (.int 0), Z, I, J)) ∧ (¬ 57 < x0 → o = (some (.int 1), Z, I, J)))))) : zE d kX12_isDigit 0 [some (.int x0)] [] Z I J o := by
  refine ex_step (pc' := 1) dX12_isDigit_0 rfl ?_
  refine ex_step (pc' := 3) (st' := [.int 48, .int x0]) dX12_isDigit_1 rfl ?_
  refine ex_icmp (pc' := 16) dX12_isDigit_3 (by decide) (fun c => ?_) (fun c => ?_)
  · have h := h.1 c
    refine ex_step (pc' := 17) (st' := [.int 0]) dX12_isDigit_16 rfl ?_
    rw [h]; exact ex_ret (v := some (.int 0)) ⟨dX12_isDigit_17, _, rfl, rfl⟩
  · have h := h.2 c
    refine ex_step (pc' := 7) dX12_isDigit_6 rfl ?_
    refine ex_step (pc' := 9) (st' := [.int 57, .int x0]) dX12_isDigit_7 rfl ?_
    refine ex_icmp (pc' := 16) dX12_isDigit_9 (by decide) (fun c => ?_) (fun c => ?_)
    · have h := h.1 c
      refine ex_step (pc' := 17) (st' := [.int 0]) dX12_isDigit_16 rfl ?_
      rw [h]; exact ex_ret (v := some (.int 0)) ⟨dX12_isDigit_17, _, rfl, rfl⟩
    · have h := h.2 c
      refine ex_step (pc' := 13) (st' := [.int 1]) dX12_isDigit_12 rfl ?_
      refine ex_step (pc' := 17) dX12_isDigit_13 rfl ?_
      rw [h]; exact ex_ret (v := some (.int 1)) ⟨dX12_isDigit_17, _, rfl, rfl⟩
set_option maxHeartbeats 4000000 in
theorem BX12_isLetter_0 {d : Nat} {Z : zZ} {I : zI} {J : zJ} {o : zO} (x0 : Int32)  (h : ((x0 < 97 → o = (some (.int 0), Z, I, J)) ∧ (¬ x0 < 97 → ((122 < x0 → o = (some (.int 0), Z, I, J)) ∧ (¬ 122 < x0 → o = (some (.int 1), Z, I, J)))))) : zE d kX12_isLetter 0 [some (.int x0)] [] Z I J o := by
  refine ex_step (pc' := 1) dX12_isLetter_0 rfl ?_
  refine ex_step (pc' := 3) (st' := [.int 97, .int x0]) dX12_isLetter_1 rfl ?_
  refine ex_icmp (pc' := 16) dX12_isLetter_3 (by decide) (fun c => ?_) (fun c => ?_)
  · have h := h.1 c
    refine ex_step (pc' := 17) (st' := [.int 0]) dX12_isLetter_16 rfl ?_
    rw [h]; exact ex_ret (v := some (.int 0)) ⟨dX12_isLetter_17, _, rfl, rfl⟩
  · have h := h.2 c
    refine ex_step (pc' := 7) dX12_isLetter_6 rfl ?_
    refine ex_step (pc' := 9) (st' := [.int 122, .int x0]) dX12_isLetter_7 rfl ?_
    refine ex_icmp (pc' := 16) dX12_isLetter_9 (by decide) (fun c => ?_) (fun c => ?_)
    · have h := h.1 c
      refine ex_step (pc' := 17) (st' := [.int 0]) dX12_isLetter_16 rfl ?_
      rw [h]; exact ex_ret (v := some (.int 0)) ⟨dX12_isLetter_17, _, rfl, rfl⟩
    · have h := h.2 c
      refine ex_step (pc' := 13) (st' := [.int 1]) dX12_isLetter_12 rfl ?_
      refine ex_step (pc' := 17) dX12_isLetter_13 rfl ?_
      rw [h]; exact ex_ret (v := some (.int 1)) ⟨dX12_isLetter_17, _, rfl, rfl⟩
set_option maxHeartbeats 4000000 in
theorem BX12_appends_0 {d : Nat} {Z : zZ} {I : zI} {J : zJ} {o : zO} (w0 : Int64) (x2 : Int32)  (h : ((¬ x2 = 0 → o = (some (.long ((27 * w0) + ((x2 - 97) + 1).toInt64)), Z, I, J)) ∧ (x2 = 0 → o = (some (.long w0), Z, I, J)))) : zE d kX12_appends 0 [some (.long w0), none, some (.int x2)] [] Z I J o := by
  refine ex_step (pc' := 1) dX12_appends_0 rfl ?_
  refine ex_if (pc' := 8) dX12_appends_1 (by decide) (fun c => ?_) (fun c => ?_)
  · have h := h.1 c
    refine ex_ldc2 dX12_appends_8 zk_RX12_200 ?_
    refine ex_step (pc' := 12) dX12_appends_11 rfl ?_
    refine ex_step (pc' := 13) dX12_appends_12 rfl ?_
    refine ex_step (pc' := 14) dX12_appends_13 rfl ?_
    refine ex_step (pc' := 16) (st' := [.int 97, .int x2, .long (27 * w0)]) dX12_appends_14 rfl ?_
    refine ex_step (pc' := 17) dX12_appends_16 rfl ?_
    refine ex_step (pc' := 18) (st' := [.int 1, .int (x2 - 97), .long (27 * w0)]) dX12_appends_17 rfl ?_
    refine ex_step (pc' := 19) dX12_appends_18 rfl ?_
    refine ex_step (pc' := 20) dX12_appends_19 rfl ?_
    refine ex_step (pc' := 21) dX12_appends_20 rfl ?_
    rw [h]; exact ex_ret (v := some (.long ((27 * w0) + ((x2 - 97) + 1).toInt64))) ⟨dX12_appends_21, rfl⟩
  · have h := h.2 (Classical.not_not.mp c)
    refine ex_step (pc' := 5) dX12_appends_4 rfl ?_
    refine ex_step (pc' := 21) dX12_appends_5 rfl ?_
    rw [h]; exact ex_ret (v := some (.long w0)) ⟨dX12_appends_21, rfl⟩
set_option maxHeartbeats 4000000 in
theorem BX12_apart_0 {d : Nat} {Z : zZ} {I : zI} {J : zJ} {o : zO} (x0 : Int32) (x1 : Int32)  (h : ((x1 ≤ x0 → o = (some (.int (x0 - x1)), Z, I, J)) ∧ (¬ x1 ≤ x0 → o = (some (.int (x1 - x0)), Z, I, J)))) : zE d kX12_apart 0 [some (.int x0), some (.int x1)] [] Z I J o := by
  refine ex_step (pc' := 1) dX12_apart_0 rfl ?_
  refine ex_step (pc' := 2) dX12_apart_1 rfl ?_
  refine ex_icmp (pc' := 11) dX12_apart_2 (by decide) (fun c => ?_) (fun c => ?_)
  · have h := h.1 c
    refine ex_step (pc' := 12) dX12_apart_11 rfl ?_
    refine ex_step (pc' := 13) dX12_apart_12 rfl ?_
    refine ex_step (pc' := 14) dX12_apart_13 rfl ?_
    rw [h]; exact ex_ret (v := some (.int (x0 - x1))) ⟨dX12_apart_14, _, rfl, rfl⟩
  · have h := h.2 c
    refine ex_step (pc' := 6) dX12_apart_5 rfl ?_
    refine ex_step (pc' := 7) dX12_apart_6 rfl ?_
    refine ex_step (pc' := 8) dX12_apart_7 rfl ?_
    refine ex_step (pc' := 14) dX12_apart_8 rfl ?_
    rw [h]; exact ex_ret (v := some (.int (x1 - x0))) ⟨dX12_apart_14, _, rfl, rfl⟩
set_option maxHeartbeats 4000000 in
theorem BX12_dx_0 {d : Nat} {Z : zZ} {I : zI} {J : zJ} {o : zO} (x0 : Int32)  (h : ((¬ x0 = 2 → ((¬ x0 = 4 → o = (some (.int 0), Z, I, J)) ∧ (x0 = 4 → o = (some (.int (-1)), Z, I, J)))) ∧ (x0 = 2 → o = (some (.int 1), Z, I, J)))) : zE d kX12_dx 0 [some (.int x0)] [] Z I J o := by
  refine ex_step (pc' := 1) dX12_dx_0 rfl ?_
  refine ex_step (pc' := 2) (st' := [.int 2, .int x0]) dX12_dx_1 rfl ?_
  refine ex_icmp (pc' := 9) dX12_dx_2 (by decide) (fun c => ?_) (fun c => ?_)
  · have h := h.1 c
    refine ex_step (pc' := 10) dX12_dx_9 rfl ?_
    refine ex_step (pc' := 11) (st' := [.int 4, .int x0]) dX12_dx_10 rfl ?_
    refine ex_icmp (pc' := 18) dX12_dx_11 (by decide) (fun c => ?_) (fun c => ?_)
    · have h := h.1 c
      refine ex_step (pc' := 19) (st' := [.int 0]) dX12_dx_18 rfl ?_
      rw [h]; exact ex_ret (v := some (.int 0)) ⟨dX12_dx_19, _, rfl, rfl⟩
    · have h := h.2 (Classical.not_not.mp c)
      refine ex_step (pc' := 15) (st' := [.int (-1)]) dX12_dx_14 rfl ?_
      refine ex_step (pc' := 19) dX12_dx_15 rfl ?_
      rw [h]; exact ex_ret (v := some (.int (-1))) ⟨dX12_dx_19, _, rfl, rfl⟩
  · have h := h.2 (Classical.not_not.mp c)
    refine ex_step (pc' := 6) (st' := [.int 1]) dX12_dx_5 rfl ?_
    refine ex_step (pc' := 19) dX12_dx_6 rfl ?_
    rw [h]; exact ex_ret (v := some (.int 1)) ⟨dX12_dx_19, _, rfl, rfl⟩
set_option maxHeartbeats 4000000 in
theorem BX12_dy_0 {d : Nat} {Z : zZ} {I : zI} {J : zJ} {o : zO} (x0 : Int32)  (h : ((¬ x0 = 1 → ((¬ x0 = 3 → o = (some (.int 0), Z, I, J)) ∧ (x0 = 3 → o = (some (.int (-1)), Z, I, J)))) ∧ (x0 = 1 → o = (some (.int 1), Z, I, J)))) : zE d kX12_dy 0 [some (.int x0)] [] Z I J o := by
  refine ex_step (pc' := 1) dX12_dy_0 rfl ?_
  refine ex_step (pc' := 2) (st' := [.int 1, .int x0]) dX12_dy_1 rfl ?_
  refine ex_icmp (pc' := 9) dX12_dy_2 (by decide) (fun c => ?_) (fun c => ?_)
  · have h := h.1 c
    refine ex_step (pc' := 10) dX12_dy_9 rfl ?_
    refine ex_step (pc' := 11) (st' := [.int 3, .int x0]) dX12_dy_10 rfl ?_
    refine ex_icmp (pc' := 18) dX12_dy_11 (by decide) (fun c => ?_) (fun c => ?_)
    · have h := h.1 c
      refine ex_step (pc' := 19) (st' := [.int 0]) dX12_dy_18 rfl ?_
      rw [h]; exact ex_ret (v := some (.int 0)) ⟨dX12_dy_19, _, rfl, rfl⟩
    · have h := h.2 (Classical.not_not.mp c)
      refine ex_step (pc' := 15) (st' := [.int (-1)]) dX12_dy_14 rfl ?_
      refine ex_step (pc' := 19) dX12_dy_15 rfl ?_
      rw [h]; exact ex_ret (v := some (.int (-1))) ⟨dX12_dy_19, _, rfl, rfl⟩
  · have h := h.2 (Classical.not_not.mp c)
    refine ex_step (pc' := 6) (st' := [.int 1]) dX12_dy_5 rfl ?_
    refine ex_step (pc' := 19) dX12_dy_6 rfl ?_
    rw [h]; exact ex_ret (v := some (.int 1)) ⟨dX12_dy_19, _, rfl, rfl⟩
set_option maxHeartbeats 4000000 in
theorem BX12_streetOf_0 {d : Nat} {Z : zZ} {I : zI} {J : zJ} {o : zO} (x0 : Int32) (x1 : Int32) (x2 : Int32)  (h : ((¬ x2 = 4 → ((¬ x2 = 3 → ((x2 = 1 → o = (some (.int ((((12 : Int32) * x1) + x0) + 144)), Z, I, J)) ∧ (¬ x2 = 1 → ((¬ x2 = 3 → o = (some (.int ((((12 : Int32) * x1) + x0) + 0)), Z, I, J)) ∧ (x2 = 3 → o = (some (.int ((((12 : Int32) * x1) + x0) + 144)), Z, I, J)))))) ∧ (x2 = 3 → ((x2 = 1 → o = (some (.int ((((12 : Int32) * (x1 - 1)) + x0) + 144)), Z, I, J)) ∧ (¬ x2 = 1 → ((¬ x2 = 3 → o = (some (.int ((((12 : Int32) * (x1 - 1)) + x0) + 0)), Z, I, J)) ∧ (x2 = 3 → o = (some (.int ((((12 : Int32) * (x1 - 1)) + x0) + 144)), Z, I, J)))))))) ∧ (x2 = 4 → ((¬ x2 = 3 → ((x2 = 1 → o = (some (.int ((((12 : Int32) * x1) + (x0 - 1)) + 144)), Z, I, J)) ∧ (¬ x2 = 1 → ((¬ x2 = 3 → o = (some (.int ((((12 : Int32) * x1) + (x0 - 1)) + 0)), Z, I, J)) ∧ (x2 = 3 → o = (some (.int ((((12 : Int32) * x1) + (x0 - 1)) + 144)), Z, I, J)))))) ∧ (x2 = 3 → ((x2 = 1 → o = (some (.int ((((12 : Int32) * (x1 - 1)) + (x0 - 1)) + 144)), Z, I, J)) ∧ (¬ x2 = 1 → ((¬ x2 = 3 → o = (some (.int ((((12 : Int32) * (x1 - 1)) + (x0 - 1)) + 0)), Z, I, J)) ∧ (x2 = 3 → o = (some (.int ((((12 : Int32) * (x1 - 1)) + (x0 - 1)) + 144)), Z, I, J)))))))))) : zE d kX12_streetOf 0 [some (.int x0), some (.int x1), some (.int x2), none, none] [] Z I J o := by
  refine ex_step (pc' := 1) dX12_streetOf_0 rfl ?_
  refine ex_step (pc' := 2) (st' := [.int 4, .int x2]) dX12_streetOf_1 rfl ?_
  refine ex_icmp (pc' := 11) dX12_streetOf_2 (by decide) (fun c => ?_) (fun c => ?_)
  · have h := h.1 c
    refine ex_step (pc' := 12) dX12_streetOf_11 rfl ?_
    refine ex_step (pc' := 13) (ls' := [some (.int x0), some (.int x1), some (.int x2), some (.int x0), none]) dX12_streetOf_12 rfl ?_
    refine ex_step (pc' := 14) dX12_streetOf_13 rfl ?_
    refine ex_step (pc' := 15) (st' := [.int 3, .int x2]) dX12_streetOf_14 rfl ?_
    refine ex_icmp (pc' := 24) dX12_streetOf_15 (by decide) (fun c => ?_) (fun c => ?_)
    · have h := h.1 c
      refine ex_step (pc' := 25) dX12_streetOf_24 rfl ?_
      refine ex_step (pc' := 27) (ls' := [some (.int x0), some (.int x1), some (.int x2), some (.int x0), some (.int x1)]) dX12_streetOf_25 rfl ?_
      refine ex_step (pc' := 29) (st' := [.int 12]) dX12_streetOf_27 rfl ?_
      refine ex_step (pc' := 31) dX12_streetOf_29 rfl ?_
      refine ex_step (pc' := 32) dX12_streetOf_31 rfl ?_
      refine ex_step (pc' := 33) dX12_streetOf_32 rfl ?_
      refine ex_step (pc' := 34) dX12_streetOf_33 rfl ?_
      refine ex_step (pc' := 35) dX12_streetOf_34 rfl ?_
      refine ex_step (pc' := 36) (st' := [.int 1, .int x2, .int (((12 : Int32) * x1) + x0)]) dX12_streetOf_35 rfl ?_
      refine ex_icmp (pc' := 44) dX12_streetOf_36 (by decide) (fun c => ?_) (fun c => ?_)
      · have h := h.1 c
        refine ex_step (pc' := 47) (st' := [.int 144, .int (((12 : Int32) * x1) + x0)]) dX12_streetOf_44 rfl ?_
        refine ex_step (pc' := 51) dX12_streetOf_47 rfl ?_
        refine ex_step (pc' := 52) dX12_streetOf_51 rfl ?_
        rw [h]; exact ex_ret (v := some (.int ((((12 : Int32) * x1) + x0) + 144))) ⟨dX12_streetOf_52, _, rfl, rfl⟩
      · have h := h.2 c
        refine ex_step (pc' := 40) dX12_streetOf_39 rfl ?_
        refine ex_step (pc' := 41) (st' := [.int 3, .int x2, .int (((12 : Int32) * x1) + x0)]) dX12_streetOf_40 rfl ?_
        refine ex_icmp (pc' := 50) dX12_streetOf_41 (by decide) (fun c => ?_) (fun c => ?_)
        · have h := h.1 c
          refine ex_step (pc' := 51) (st' := [.int 0, .int (((12 : Int32) * x1) + x0)]) dX12_streetOf_50 rfl ?_
          refine ex_step (pc' := 52) dX12_streetOf_51 rfl ?_
          rw [h]; exact ex_ret (v := some (.int ((((12 : Int32) * x1) + x0) + 0))) ⟨dX12_streetOf_52, _, rfl, rfl⟩
        · have h := h.2 (Classical.not_not.mp c)
          refine ex_step (pc' := 47) (st' := [.int 144, .int (((12 : Int32) * x1) + x0)]) dX12_streetOf_44 rfl ?_
          refine ex_step (pc' := 51) dX12_streetOf_47 rfl ?_
          refine ex_step (pc' := 52) dX12_streetOf_51 rfl ?_
          rw [h]; exact ex_ret (v := some (.int ((((12 : Int32) * x1) + x0) + 144))) ⟨dX12_streetOf_52, _, rfl, rfl⟩
    · have h := h.2 (Classical.not_not.mp c)
      refine ex_step (pc' := 19) dX12_streetOf_18 rfl ?_
      refine ex_step (pc' := 20) (st' := [.int 1, .int x1]) dX12_streetOf_19 rfl ?_
      refine ex_step (pc' := 21) dX12_streetOf_20 rfl ?_
      refine ex_step (pc' := 25) dX12_streetOf_21 rfl ?_
      refine ex_step (pc' := 27) (ls' := [some (.int x0), some (.int x1), some (.int x2), some (.int x0), some (.int (x1 - 1))]) dX12_streetOf_25 rfl ?_
      refine ex_step (pc' := 29) (st' := [.int 12]) dX12_streetOf_27 rfl ?_
      refine ex_step (pc' := 31) dX12_streetOf_29 rfl ?_
      refine ex_step (pc' := 32) dX12_streetOf_31 rfl ?_
      refine ex_step (pc' := 33) dX12_streetOf_32 rfl ?_
      refine ex_step (pc' := 34) dX12_streetOf_33 rfl ?_
      refine ex_step (pc' := 35) dX12_streetOf_34 rfl ?_
      refine ex_step (pc' := 36) (st' := [.int 1, .int x2, .int (((12 : Int32) * (x1 - 1)) + x0)]) dX12_streetOf_35 rfl ?_
      refine ex_icmp (pc' := 44) dX12_streetOf_36 (by decide) (fun c => ?_) (fun c => ?_)
      · have h := h.1 c
        refine ex_step (pc' := 47) (st' := [.int 144, .int (((12 : Int32) * (x1 - 1)) + x0)]) dX12_streetOf_44 rfl ?_
        refine ex_step (pc' := 51) dX12_streetOf_47 rfl ?_
        refine ex_step (pc' := 52) dX12_streetOf_51 rfl ?_
        rw [h]; exact ex_ret (v := some (.int ((((12 : Int32) * (x1 - 1)) + x0) + 144))) ⟨dX12_streetOf_52, _, rfl, rfl⟩
      · have h := h.2 c
        refine ex_step (pc' := 40) dX12_streetOf_39 rfl ?_
        refine ex_step (pc' := 41) (st' := [.int 3, .int x2, .int (((12 : Int32) * (x1 - 1)) + x0)]) dX12_streetOf_40 rfl ?_
        refine ex_icmp (pc' := 50) dX12_streetOf_41 (by decide) (fun c => ?_) (fun c => ?_)
        · have h := h.1 c
          refine ex_step (pc' := 51) (st' := [.int 0, .int (((12 : Int32) * (x1 - 1)) + x0)]) dX12_streetOf_50 rfl ?_
          refine ex_step (pc' := 52) dX12_streetOf_51 rfl ?_
          rw [h]; exact ex_ret (v := some (.int ((((12 : Int32) * (x1 - 1)) + x0) + 0))) ⟨dX12_streetOf_52, _, rfl, rfl⟩
        · have h := h.2 (Classical.not_not.mp c)
          refine ex_step (pc' := 47) (st' := [.int 144, .int (((12 : Int32) * (x1 - 1)) + x0)]) dX12_streetOf_44 rfl ?_
          refine ex_step (pc' := 51) dX12_streetOf_47 rfl ?_
          refine ex_step (pc' := 52) dX12_streetOf_51 rfl ?_
          rw [h]; exact ex_ret (v := some (.int ((((12 : Int32) * (x1 - 1)) + x0) + 144))) ⟨dX12_streetOf_52, _, rfl, rfl⟩
  · have h := h.2 (Classical.not_not.mp c)
    refine ex_step (pc' := 6) dX12_streetOf_5 rfl ?_
    refine ex_step (pc' := 7) (st' := [.int 1, .int x0]) dX12_streetOf_6 rfl ?_
    refine ex_step (pc' := 8) dX12_streetOf_7 rfl ?_
    refine ex_step (pc' := 12) dX12_streetOf_8 rfl ?_
    refine ex_step (pc' := 13) (ls' := [some (.int x0), some (.int x1), some (.int x2), some (.int (x0 - 1)), none]) dX12_streetOf_12 rfl ?_
    refine ex_step (pc' := 14) dX12_streetOf_13 rfl ?_
    refine ex_step (pc' := 15) (st' := [.int 3, .int x2]) dX12_streetOf_14 rfl ?_
    refine ex_icmp (pc' := 24) dX12_streetOf_15 (by decide) (fun c => ?_) (fun c => ?_)
    · have h := h.1 c
      refine ex_step (pc' := 25) dX12_streetOf_24 rfl ?_
      refine ex_step (pc' := 27) (ls' := [some (.int x0), some (.int x1), some (.int x2), some (.int (x0 - 1)), some (.int x1)]) dX12_streetOf_25 rfl ?_
      refine ex_step (pc' := 29) (st' := [.int 12]) dX12_streetOf_27 rfl ?_
      refine ex_step (pc' := 31) dX12_streetOf_29 rfl ?_
      refine ex_step (pc' := 32) dX12_streetOf_31 rfl ?_
      refine ex_step (pc' := 33) dX12_streetOf_32 rfl ?_
      refine ex_step (pc' := 34) dX12_streetOf_33 rfl ?_
      refine ex_step (pc' := 35) dX12_streetOf_34 rfl ?_
      refine ex_step (pc' := 36) (st' := [.int 1, .int x2, .int (((12 : Int32) * x1) + (x0 - 1))]) dX12_streetOf_35 rfl ?_
      refine ex_icmp (pc' := 44) dX12_streetOf_36 (by decide) (fun c => ?_) (fun c => ?_)
      · have h := h.1 c
        refine ex_step (pc' := 47) (st' := [.int 144, .int (((12 : Int32) * x1) + (x0 - 1))]) dX12_streetOf_44 rfl ?_
        refine ex_step (pc' := 51) dX12_streetOf_47 rfl ?_
        refine ex_step (pc' := 52) dX12_streetOf_51 rfl ?_
        rw [h]; exact ex_ret (v := some (.int ((((12 : Int32) * x1) + (x0 - 1)) + 144))) ⟨dX12_streetOf_52, _, rfl, rfl⟩
      · have h := h.2 c
        refine ex_step (pc' := 40) dX12_streetOf_39 rfl ?_
        refine ex_step (pc' := 41) (st' := [.int 3, .int x2, .int (((12 : Int32) * x1) + (x0 - 1))]) dX12_streetOf_40 rfl ?_
        refine ex_icmp (pc' := 50) dX12_streetOf_41 (by decide) (fun c => ?_) (fun c => ?_)
        · have h := h.1 c
          refine ex_step (pc' := 51) (st' := [.int 0, .int (((12 : Int32) * x1) + (x0 - 1))]) dX12_streetOf_50 rfl ?_
          refine ex_step (pc' := 52) dX12_streetOf_51 rfl ?_
          rw [h]; exact ex_ret (v := some (.int ((((12 : Int32) * x1) + (x0 - 1)) + 0))) ⟨dX12_streetOf_52, _, rfl, rfl⟩
        · have h := h.2 (Classical.not_not.mp c)
          refine ex_step (pc' := 47) (st' := [.int 144, .int (((12 : Int32) * x1) + (x0 - 1))]) dX12_streetOf_44 rfl ?_
          refine ex_step (pc' := 51) dX12_streetOf_47 rfl ?_
          refine ex_step (pc' := 52) dX12_streetOf_51 rfl ?_
          rw [h]; exact ex_ret (v := some (.int ((((12 : Int32) * x1) + (x0 - 1)) + 144))) ⟨dX12_streetOf_52, _, rfl, rfl⟩
    · have h := h.2 (Classical.not_not.mp c)
      refine ex_step (pc' := 19) dX12_streetOf_18 rfl ?_
      refine ex_step (pc' := 20) (st' := [.int 1, .int x1]) dX12_streetOf_19 rfl ?_
      refine ex_step (pc' := 21) dX12_streetOf_20 rfl ?_
      refine ex_step (pc' := 25) dX12_streetOf_21 rfl ?_
      refine ex_step (pc' := 27) (ls' := [some (.int x0), some (.int x1), some (.int x2), some (.int (x0 - 1)), some (.int (x1 - 1))]) dX12_streetOf_25 rfl ?_
      refine ex_step (pc' := 29) (st' := [.int 12]) dX12_streetOf_27 rfl ?_
      refine ex_step (pc' := 31) dX12_streetOf_29 rfl ?_
      refine ex_step (pc' := 32) dX12_streetOf_31 rfl ?_
      refine ex_step (pc' := 33) dX12_streetOf_32 rfl ?_
      refine ex_step (pc' := 34) dX12_streetOf_33 rfl ?_
      refine ex_step (pc' := 35) dX12_streetOf_34 rfl ?_
      refine ex_step (pc' := 36) (st' := [.int 1, .int x2, .int (((12 : Int32) * (x1 - 1)) + (x0 - 1))]) dX12_streetOf_35 rfl ?_
      refine ex_icmp (pc' := 44) dX12_streetOf_36 (by decide) (fun c => ?_) (fun c => ?_)
      · have h := h.1 c
        refine ex_step (pc' := 47) (st' := [.int 144, .int (((12 : Int32) * (x1 - 1)) + (x0 - 1))]) dX12_streetOf_44 rfl ?_
        refine ex_step (pc' := 51) dX12_streetOf_47 rfl ?_
        refine ex_step (pc' := 52) dX12_streetOf_51 rfl ?_
        rw [h]; exact ex_ret (v := some (.int ((((12 : Int32) * (x1 - 1)) + (x0 - 1)) + 144))) ⟨dX12_streetOf_52, _, rfl, rfl⟩
      · have h := h.2 c
        refine ex_step (pc' := 40) dX12_streetOf_39 rfl ?_
        refine ex_step (pc' := 41) (st' := [.int 3, .int x2, .int (((12 : Int32) * (x1 - 1)) + (x0 - 1))]) dX12_streetOf_40 rfl ?_
        refine ex_icmp (pc' := 50) dX12_streetOf_41 (by decide) (fun c => ?_) (fun c => ?_)
        · have h := h.1 c
          refine ex_step (pc' := 51) (st' := [.int 0, .int (((12 : Int32) * (x1 - 1)) + (x0 - 1))]) dX12_streetOf_50 rfl ?_
          refine ex_step (pc' := 52) dX12_streetOf_51 rfl ?_
          rw [h]; exact ex_ret (v := some (.int ((((12 : Int32) * (x1 - 1)) + (x0 - 1)) + 0))) ⟨dX12_streetOf_52, _, rfl, rfl⟩
        · have h := h.2 (Classical.not_not.mp c)
          refine ex_step (pc' := 47) (st' := [.int 144, .int (((12 : Int32) * (x1 - 1)) + (x0 - 1))]) dX12_streetOf_44 rfl ?_
          refine ex_step (pc' := 51) dX12_streetOf_47 rfl ?_
          refine ex_step (pc' := 52) dX12_streetOf_51 rfl ?_
          rw [h]; exact ex_ret (v := some (.int ((((12 : Int32) * (x1 - 1)) + (x0 - 1)) + 144))) ⟨dX12_streetOf_52, _, rfl, rfl⟩
set_option maxHeartbeats 4000000 in
theorem BX12_mixed_0 {d : Nat} {Z : zZ} {I : zI} {J : zJ} {o : zO} (x0 : Int32) (x1 : Int32)  (h : (∀ y1 : Int32, y1 = (((x0 ^^^ x1) * 1103515245) + 12345) → o = (some (.int (y1 ^^^ ((y1.toUInt32 >>> (Int32.toUInt32 15 &&& Int32.toUInt32 31)).toInt32))), Z, I, J))) : zE d kX12_mixed 0 [some (.int x0), some (.int x1), none] [] Z I J o := by
  refine ex_step (pc' := 1) dX12_mixed_0 rfl ?_
  refine ex_step (pc' := 2) dX12_mixed_1 rfl ?_
  refine ex_step (pc' := 3) dX12_mixed_2 rfl ?_
  refine ex_ldcw dX12_mixed_3 zk_RX12_349 ?_
  refine ex_step (pc' := 7) dX12_mixed_6 rfl ?_
  refine ex_step (pc' := 10) (st' := [.int 12345, .int ((x0 ^^^ x1) * 1103515245)]) dX12_mixed_7 rfl ?_
  refine ex_step (pc' := 11) dX12_mixed_10 rfl ?_
  refine ex_topi (fun y1 ey1 => ?_)
  have h := h y1 ey1
  refine ex_step (pc' := 12) (ls' := [some (.int x0), some (.int x1), some (.int y1)]) dX12_mixed_11 rfl ?_
  refine ex_step (pc' := 13) dX12_mixed_12 rfl ?_
  refine ex_step (pc' := 14) dX12_mixed_13 rfl ?_
  refine ex_step (pc' := 16) (st' := [.int 15, .int y1, .int y1]) dX12_mixed_14 rfl ?_
  refine ex_step (pc' := 17) (st' := [.int ((y1.toUInt32 >>> (Int32.toUInt32 15 &&& Int32.toUInt32 31)).toInt32), .int y1]) dX12_mixed_16 rfl ?_
  refine ex_step (pc' := 18) dX12_mixed_17 rfl ?_
  rw [h]; exact ex_ret (v := some (.int (y1 ^^^ ((y1.toUInt32 >>> (Int32.toUInt32 15 &&& Int32.toUInt32 31)).toInt32)))) ⟨dX12_mixed_18, _, rfl, rfl⟩
