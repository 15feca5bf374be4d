/-! texts: length, charAt -/
theorem zw_sv : Cond.fieldLink RJ0 9 "java/lang/String" "value" "[B" ∈ zT := z_mem (z_m9 44 rfl) rfl
theorem zw_sc : Cond.fieldLink RJ0 15 "java/lang/String" "coder" "B" ∈ zT := z_mem (z_m9 45 rfl) rfl
theorem zw_cs : Cond.fieldLink RJ0 38 "java/lang/String" "COMPACT_STRINGS" "Z" ∈ zT := z_mem (z_m1 180 rfl) rfl
theorem zw_fm : Cond.fieldLink RJ0 1053 "jdk/internal/util/Preconditions" "SIOOBE_FORMATTER" "Ljava/util/function/BiFunction;" ∈ zT := z_mem (z_m1 196 rfl) rfl
theorem zw_cd : zlink RJ0 335 yJ0_coder_7d493 := Or.inl (z_mem (z_m1 176 rfl) rfl)
theorem zw_l1 : zlink RJ0 492 yJ0_isLatin1_aae02 := Or.inl (z_mem (z_m1 186 rfl) rfl)
theorem zw_ca : zlink RJ0 495 yJ1_charAt_3b067 := Or.inl (z_mem (z_m1 190 rfl) rfl)
theorem zw_ci : zlink RJ1 9 yJ0_checkIndex_df160 := Or.inl (z_mem (z_m1 193 rfl) rfl)
theorem zw_pc : zlink RJ0 1059 yJ3_checkIndex_8e157 := Or.inl (z_mem (z_m1 198 rfl) rfl)
section
variable {d : Nat} {Z : zZ} {I : zI} {J : zJ} {b n i : Nat}
theorem S_coder (hb : zstr b) : zE d kJ0_coder_7d493 0 [some (.ref b)] [] Z I J (some (.int 0), Z, I, J) := by
  refine ex_cmpS dJ0_coder_7d493_0 zw_cs ?_
  refine ex_if (pc' := 13) dJ0_coder_7d493_3 (by decide) (fun c => absurd (show (1 : Int32) = 0 from c) (by decide)) (fun _ => ?_)
  refine ex_step (pc' := 7) dJ0_coder_7d493_6 rfl ?_
  refine ex_getc dJ0_coder_7d493_7 zw_sc hb ?_
  refine ex_step (pc' := 14) dJ0_coder_7d493_10 rfl ?_
  exact ex_ret (v := some (.int 0)) ⟨dJ0_coder_7d493_14, _, rfl, rfl⟩
theorem S_isLatin1 (hb : zstr b) : zE d kJ0_isLatin1_aae02 0 [some (.ref b)] [] Z I J (some (.int 1), Z, I, J) := by
  refine ex_cmpS dJ0_isLatin1_aae02_0 zw_cs ?_
  refine ex_if (pc' := 17) dJ0_isLatin1_aae02_3 (by decide) (fun c => absurd (show (1 : Int32) = 0 from c) (by decide)) (fun _ => ?_)
  refine ex_step (pc' := 7) dJ0_isLatin1_aae02_6 rfl ?_
  refine ex_getc dJ0_isLatin1_aae02_7 zw_sc hb ?_
  refine ex_if (pc' := 17) dJ0_isLatin1_aae02_10 (by decide) (fun c => absurd rfl c) (fun _ => ?_)
  refine ex_step (pc' := 14) (st' := [.int 1]) dJ0_isLatin1_aae02_13 rfl ?_
  refine ex_step (pc' := 18) dJ0_isLatin1_aae02_14 rfl ?_
  exact ex_ret (v := some (.int 1)) ⟨dJ0_isLatin1_aae02_18, _, rfl, rfl⟩
theorem S_length (hb : zstr b) (hz : zrb Z (b + 2) n) (hn : n < 2 ^ 31) : zE (d + 1) kJ0_length_8abf5 0 [some (.ref b)] [] Z I J (some (.int (nI n)), Z, I, J) := by
  refine ex_step (pc' := 1) dJ0_length_8abf5_0 rfl ?_
  refine ex_getv dJ0_length_8abf5_1 zw_sv hb ?_
  refine ex_alenr dJ0_length_8abf5_4 hz ?_
  refine ex_step (pc' := 6) dJ0_length_8abf5_5 rfl ?_
  refine ex_callK (as := []) (st := [.int (Int32.ofNat n)]) dJ0_length_8abf5_6 zmJ0_coder_7d493 zw_cd ziJ0_coder_7d493 zvJ0_coder_7d493 hb rfl (Nat.le_of_ble_eq_true rfl) (Nat.le_of_ble_eq_true rfl) (S_coder hb) ?_
  refine ex_step (pc' := 10) (st' := [.int (nI n >>> ((0 : Int32) &&& 31))]) dJ0_length_8abf5_9 rfl ?_
  rw [sc_shr0 hn]
  exact ex_ret (v := some (.int (nI n))) ⟨dJ0_length_8abf5_10, _, rfl, rfl⟩
theorem S_pcheck {w : Value} (hi : i < n) (hn : n < 2147483648) : zE d kJ3_checkIndex_8e157 0 [some (.int (nI i)), some (.int (nI n)), some w] [] Z I J (some (.int (nI i)), Z, I, J) := by
  refine ex_step (pc' := 1) dJ3_checkIndex_8e157_0 rfl ?_
  refine ex_if (pc' := 9) dJ3_checkIndex_8e157_1 (by decide) (fun c => absurd c (zneg (by omega))) (fun _ => ?_)
  refine ex_step (pc' := 5) dJ3_checkIndex_8e157_4 rfl ?_
  refine ex_step (pc' := 6) dJ3_checkIndex_8e157_5 rfl ?_
  refine ex_icmp (pc' := 16) dJ3_checkIndex_8e157_6 (by decide) (fun _ => ?_) (fun c => ?_)
  · refine ex_step (pc' := 17) dJ3_checkIndex_8e157_16 rfl ?_
    exact ex_ret (v := some (.int (nI i))) ⟨dJ3_checkIndex_8e157_17, _, rfl, rfl⟩
  · exfalso
    have c' : ¬ nI i < nI n := c
    rw [zlt (by omega) hn] at c'; omega
theorem S_check (hi : i < n) (hn : n < 2147483648) : zE (d + 1) kJ0_checkIndex_df160 0 [some (.int (nI i)), some (.int (nI n))] [] Z I J (none, Z, I, J) := by
  refine ex_step (pc' := 1) dJ0_checkIndex_df160_0 rfl ?_
  refine ex_step (pc' := 2) dJ0_checkIndex_df160_1 rfl ?_
  refine ex_fmt dJ0_checkIndex_df160_2 zw_fm ?_ ?_
  · refine ex_callS (as := [.int (nI i), .int (nI n), .ref 1000007]) (st := []) dJ0_checkIndex_df160_5 zmJ3_checkIndex_8e157 zw_pc zsJ3_checkIndex_8e157 rfl (Nat.le_of_ble_eq_true rfl) (Nat.le_of_ble_eq_true rfl) (S_pcheck hi hn) ?_
    refine ex_step (pc' := 9) (st' := []) dJ0_checkIndex_df160_8 rfl ?_
    exact ex_ret (v := none) ⟨dJ0_checkIndex_df160_9, rfl⟩
  · refine ex_callS (as := [.int (nI i), .int (nI n), .null]) (st := []) dJ0_checkIndex_df160_5 zmJ3_checkIndex_8e157 zw_pc zsJ3_checkIndex_8e157 rfl (Nat.le_of_ble_eq_true rfl) (Nat.le_of_ble_eq_true rfl) (S_pcheck hi hn) ?_
    refine ex_step (pc' := 9) (st' := []) dJ0_checkIndex_df160_8 rfl ?_
    exact ex_ret (v := none) ⟨dJ0_checkIndex_df160_9, rfl⟩
theorem S_charAtL {a : Nat} (hz : zrb Z a n) (hi : i < n) (hn : n < 2147483648) : zE (d + 2) kJ1_charAt_3b067 0 [some (.ref a), some (.int (nI i))] [] Z I J (some (.int (I a i &&& 255)), Z, I, J) := by
  refine ex_step (pc' := 1) dJ1_charAt_3b067_0 rfl ?_
  refine ex_step (pc' := 2) dJ1_charAt_3b067_1 rfl ?_
  refine ex_alenr dJ1_charAt_3b067_2 hz ?_
  refine ex_callS (as := [.int (nI i), .int (nI n)]) (st := []) dJ1_charAt_3b067_3 zmJ0_checkIndex_df160 zw_ci zsJ0_checkIndex_df160 rfl (Nat.le_of_ble_eq_true rfl) (Nat.le_of_ble_eq_true rfl) (S_check hi hn) ?_
  refine ex_step (pc' := 7) (st' := [.ref a]) dJ1_charAt_3b067_6 rfl ?_
  refine ex_step (pc' := 8) dJ1_charAt_3b067_7 rfl ?_
  refine ex_balr dJ1_charAt_3b067_8 hz (zvin hi hn) ?_
  rw [zclm (by omega)]
  refine ex_step (pc' := 12) (st' := [.int 255, .int (I a i)]) dJ1_charAt_3b067_9 rfl ?_
  refine ex_step (pc' := 13) (st' := [.int (I a i &&& 255)]) dJ1_charAt_3b067_12 rfl ?_
  refine ex_i2c dJ1_charAt_3b067_13 ?_
  rw [sc_c2]
  exact ex_ret (v := some (.int (I a i &&& 255))) ⟨dJ1_charAt_3b067_14, _, rfl, sc_nar _⟩
theorem S_charAt (hb : zstr b) (hz : zrb Z (b + 2) n) (hi : i < n) (hn : n < 2147483648) : zE (d + 3) kJ0_charAt_5068e 0 [some (.ref b), some (.int (nI i))] [] Z I J (some (.int (I (b + 2) i &&& 255)), Z, I, J) := by
  refine ex_step (pc' := 1) dJ0_charAt_5068e_0 rfl ?_
  refine ex_callK (as := []) (st := []) dJ0_charAt_5068e_1 zmJ0_isLatin1_aae02 zw_l1 ziJ0_isLatin1_aae02 zvJ0_isLatin1_aae02 hb rfl (Nat.le_of_ble_eq_true rfl) (Nat.le_of_ble_eq_true rfl) (S_isLatin1 hb) ?_
  refine ex_if (pc' := 16) dJ0_charAt_5068e_4 (by decide) (fun c => absurd (show (1 : Int32) = 0 from c) (by decide)) (fun _ => ?_)
  refine ex_step (pc' := 8) dJ0_charAt_5068e_7 rfl ?_
  refine ex_getv dJ0_charAt_5068e_8 zw_sv hb ?_
  refine ex_step (pc' := 12) dJ0_charAt_5068e_11 rfl ?_
  refine ex_callS (as := [.ref (b + 2), .int (nI i)]) (st := []) dJ0_charAt_5068e_12 zmJ1_charAt_3b067 zw_ca zsJ1_charAt_3b067 rfl (Nat.le_of_ble_eq_true rfl) (Nat.le_of_ble_eq_true rfl) (S_charAtL hz hi hn) ?_
  exact ex_ret (v := some (.int (I (b + 2) i &&& 255))) ⟨dJ0_charAt_5068e_15, _, rfl, sc_nar _⟩
end
