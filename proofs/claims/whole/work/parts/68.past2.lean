/-! what is kept of days: taken back, held, gone on from -/
section
variable {d : Nat} {Z : zZ} {J : zJ} {I I' I1 : zI} {t u v b : Nat}
theorem C_takeBack0 (hL : zLY Z t u) {nx d1 : Nat} (hnx : nx < 30) (h4 : I 67 4 = nI nx) (h0 : I 67 0 = nI 0) :
    zE (d + 1) kX3_takeBack 0 [some (.ref 67), some (.ref d1), none, none] [] Z I J (some (.int 0), Z, I, J) := by
  have fin : ∀ x : Int32, zE (d + 1) kX3_takeBack 18 [some (.ref 67), some (.ref d1), none, none] [.int x] Z I J (some (.int 0), Z, I, J) := by
    intro x
    refine ex_step (pc' := 19) (ls' := [some (.ref 67), some (.ref d1), some (.int x), none]) dX3_takeBack_18 rfl ?_
    refine ex_step (pc' := 20) dX3_takeBack_19 rfl ?_
    refine ex_geti dX3_takeBack_20 wf_RX3_25 (ly_a67 hL) rfl ?_
    rw [h0]
    refine ex_if (pc' := 48) dX3_takeBack_23 (by decide) (fun _ => ?_) (fun c => absurd (show nI 0 ≤ (0 : Int32) from Int32.le_refl _) c)
    refine ex_step (pc' := 49) dX3_takeBack_48 rfl ?_
    refine ex_step (pc' := 50) (ls' := [some (.ref 67), some (.ref d1), some (.int x), some .null]) dX3_takeBack_49 rfl ?_
    refine ex_step (pc' := 51) dX3_takeBack_50 rfl ?_
    refine ex_step (pc' := 54) dX3_takeBack_51 rfl ?_
    refine ex_step (pc' := 55) (st' := [.int 0]) dX3_takeBack_54 rfl ?_
    exact ex_ret (v := some (.int 0)) ⟨dX3_takeBack_55, _, rfl, rfl⟩
  refine ex_step (pc' := 1) dX3_takeBack_0 rfl ?_
  refine ex_geti dX3_takeBack_1 wf_RX3_35 (ly_a67 hL) rfl ?_
  rw [h4]
  refine ex_if (pc' := 16) dX3_takeBack_4 (by decide) (fun _ => ?_) (fun _ => ?_)
  · refine ex_step (pc' := 18) (st' := [.int 29]) dX3_takeBack_16 rfl ?_
    exact fin _
  · refine ex_step (pc' := 8) dX3_takeBack_7 rfl ?_
    refine ex_geti dX3_takeBack_8 wf_RX3_35 (ly_a67 hL) rfl ?_
    rw [h4]
    refine ex_step (pc' := 12) (st' := [.int 1, .int (nI nx)]) dX3_takeBack_11 rfl ?_
    refine ex_step (pc' := 13) (st' := [.int (nI nx - 1)]) dX3_takeBack_12 rfl ?_
    refine ex_step (pc' := 18) dX3_takeBack_13 rfl ?_
    exact fin _
theorem zprv_lt {k : Nat} (h : k < 30) : zprv k < 30 := by unfold zprv; split <;> omega
theorem C_takeBack (hL : zLY Z t u) {nx n d1 : Nat} (hnx : nx < 30) (hn : n + 1 ≤ 30) (h4 : I 67 4 = nI nx) (h0 : I 67 0 = nI (n + 1)) (h0' : I1 67 0 = nI (n + 1)) (hd1 : zDy Z d1)
    (hc : zE d kX0_copy 0 [some (.ref d1), some (.ref (71 + 10 * zprv nx))] [] Z I J (none, Z, I1, J)) :
    zE (d + 1) kX3_takeBack 0 [some (.ref 67), some (.ref d1), none, none] [] Z I J (some (.int 1), Z, zu (zu I1 67 4 (nI (zprv nx))) 67 0 (nI n), J) := by
  have hp := zprv_lt hnx
  have fin : zE (d + 1) kX3_takeBack 18 [some (.ref 67), some (.ref d1), none, none] [.int (nI (zprv nx))] Z I J (some (.int 1), Z, zu (zu I1 67 4 (nI (zprv nx))) 67 0 (nI n), J) := by
    refine ex_step (pc' := 19) (ls' := [some (.ref 67), some (.ref d1), some (.int (nI (zprv nx))), none]) dX3_takeBack_18 rfl ?_
    refine ex_step (pc' := 20) dX3_takeBack_19 rfl ?_
    refine ex_geti dX3_takeBack_20 wf_RX3_25 (ly_a67 hL) rfl ?_
    rw [h0]
    refine ex_if (pc' := 48) dX3_takeBack_23 (by decide) (fun c => ?_) (fun _ => ?_)
    · exfalso
      have c' : nI (n + 1) ≤ nI 0 := c
      rw [zle' (by omega) (by decide)] at c'; omega
    refine ex_step (pc' := 27) dX3_takeBack_26 rfl ?_
    refine ex_if (pc' := 48) dX3_takeBack_27 (by decide) (fun c => absurd c (zneg (by omega))) (fun _ => ?_)
    refine ex_step (pc' := 31) dX3_takeBack_30 rfl ?_
    refine ex_step (pc' := 32) dX3_takeBack_31 rfl ?_
    refine ex_getr dX3_takeBack_32 wf_RX3_11 (ly_a67 hL) rfl (ly_r67_1 hL) ?_
    refine ex_alen dX3_takeBack_35 (Or.inl ⟨ly_a68 hL, by decide, by decide⟩) ?_
    refine ex_icmp (pc' := 48) dX3_takeBack_36 (by decide) (fun c => ?_) (fun _ => ?_)
    · exfalso
      have c' : nI 30 ≤ nI (zprv nx) := c
      rw [zle' (by decide) (by omega)] at c'; omega
    refine ex_step (pc' := 40) dX3_takeBack_39 rfl ?_
    refine ex_getr dX3_takeBack_40 wf_RX3_11 (ly_a67 hL) rfl (ly_r67_1 hL) ?_
    refine ex_step (pc' := 44) dX3_takeBack_43 rfl ?_
    refine ex_aald (b := 71 + 10 * zprv nx) dX3_takeBack_44 (ly_a68 hL) (zvin hp (by decide)) (by rw [zclm (by omega)]; exact (ly_kept hL hp).2) ?_
    refine ex_step (pc' := 49) dX3_takeBack_45 rfl ?_
    refine ex_step (pc' := 50) (ls' := [some (.ref 67), some (.ref d1), some (.int (nI (zprv nx))), some (.ref (71 + 10 * zprv nx))]) dX3_takeBack_49 rfl ?_
    refine ex_step (pc' := 51) dX3_takeBack_50 rfl ?_
    refine ex_step (pc' := 56) dX3_takeBack_51 rfl ?_
    refine ex_step (pc' := 57) dX3_takeBack_56 rfl ?_
    refine ex_step (pc' := 58) dX3_takeBack_57 rfl ?_
    refine ex_callV (as := [.ref (71 + 10 * zprv nx)]) (st := []) (ci := 0) dX3_takeBack_58 zmX0_copy zl_RX3_38 ziX0_copy zvX0_copy (by decide) (zDy_o hd1) rfl (Nat.le_of_ble_eq_true rfl) (Nat.le_of_ble_eq_true rfl) hc ?_
    refine ex_step (pc' := 62) dX3_takeBack_61 rfl ?_
    refine ex_step (pc' := 63) dX3_takeBack_62 rfl ?_
    refine ex_putiN dX3_takeBack_63 (wp_RX3_35 _) (ly_a67 hL) rfl ⟨rfl, rfl⟩ (fun I2 e2 => ?_)
    have e0 : I2 67 0 = nI (n + 1) := by rw [e2, zu_k (by decide)]; exact h0'
    refine ex_step (pc' := 67) dX3_takeBack_66 rfl ?_
    refine ex_step (pc' := 68) dX3_takeBack_67 rfl ?_
    refine ex_geti dX3_takeBack_68 wf_RX3_25 (ly_a67 hL) rfl ?_
    rw [e0]
    refine ex_step (pc' := 72) (st' := [.int 1, .int (nI (n + 1)), .ref 67]) dX3_takeBack_71 rfl ?_
    refine ex_step (pc' := 73) (st' := [.int (nI (n + 1) - 1), .ref 67]) dX3_takeBack_72 rfl ?_
    rw [zsub1]
    refine ex_putiN dX3_takeBack_73 (wp_RX3_25 _) (ly_a67 hL) rfl ⟨rfl, rfl⟩ (fun I3 e3 => ?_)
    rw [e2] at e3
    rw [← e3]
    refine ex_step (pc' := 77) (st' := [.int 1]) dX3_takeBack_76 rfl ?_
    exact ex_ret (v := some (.int 1)) ⟨dX3_takeBack_77, _, rfl, rfl⟩
  refine ex_step (pc' := 1) dX3_takeBack_0 rfl ?_
  refine ex_geti dX3_takeBack_1 wf_RX3_35 (ly_a67 hL) rfl ?_
  rw [h4]
  refine ex_if (pc' := 16) dX3_takeBack_4 (by decide) (fun c => ?_) (fun c => ?_)
  · have c' : nI nx ≤ nI 0 := c
    rw [zle' (by omega) (by decide)] at c'
    refine ex_step (pc' := 18) (st' := [.int 29]) dX3_takeBack_16 rfl ?_
    have e : zprv nx = 29 := by unfold zprv; rw [if_neg (by omega)]
    rw [e] at fin
    rw [e]
    exact fin
  · have c' : ¬ nI nx ≤ nI 0 := c
    rw [zle' (by omega) (by decide)] at c'
    refine ex_step (pc' := 8) dX3_takeBack_7 rfl ?_
    refine ex_geti dX3_takeBack_8 wf_RX3_35 (ly_a67 hL) rfl ?_
    rw [h4]
    refine ex_step (pc' := 12) (st' := [.int 1, .int (nI nx)]) dX3_takeBack_11 rfl ?_
    refine ex_step (pc' := 13) (st' := [.int (nI nx - 1)]) dX3_takeBack_12 rfl ?_
    refine ex_step (pc' := 18) dX3_takeBack_13 rfl ?_
    have e : nI nx - 1 = nI (zprv nx) := by
      unfold zprv; rw [if_pos (by omega), show (1 : Int32) = nI 1 from rfl, zsub (by omega)]
    rw [e]; exact fin
theorem C_slotAt (hL : zLY Z t u) {s : Nat} (hs : s < 3) : zE d kX3_slotAt 0 [some (.ref 67), some (.int (nI s))] [] Z I J (some (.ref (371 + 10 * s)), Z, I, J) := by
  refine ex_step (pc' := 1) dX3_slotAt_0 rfl ?_
  refine ex_if (pc' := 22) dX3_slotAt_1 (by decide) (fun c => absurd c (zneg (by omega))) (fun _ => ?_)
  refine ex_step (pc' := 5) dX3_slotAt_4 rfl ?_
  refine ex_step (pc' := 6) dX3_slotAt_5 rfl ?_
  refine ex_getr dX3_slotAt_6 wf_RX3_17 (ly_a67 hL) rfl (ly_r67_2 hL) ?_
  refine ex_alen dX3_slotAt_9 (Or.inl ⟨ly_a69 hL, by decide, by decide⟩) ?_
  refine ex_icmp (pc' := 22) dX3_slotAt_10 (by decide) (fun c => ?_) (fun _ => ?_)
  · exfalso
    have c' : nI 3 ≤ nI s := c
    rw [zle' (by decide) (by omega)] at c'; omega
  refine ex_step (pc' := 14) dX3_slotAt_13 rfl ?_
  refine ex_getr dX3_slotAt_14 wf_RX3_17 (ly_a67 hL) rfl (ly_r67_2 hL) ?_
  refine ex_step (pc' := 18) dX3_slotAt_17 rfl ?_
  refine ex_aald (b := 371 + 10 * s) dX3_slotAt_18 (ly_a69 hL) (zvin hs (by decide)) (by rw [zclm (by omega)]; exact (ly_slot hL hs).2) ?_
  refine ex_step (pc' := 23) dX3_slotAt_19 rfl ?_
  exact ex_ret (v := some (.ref (371 + 10 * s))) ⟨dX3_slotAt_23, _, rfl⟩
theorem C_slotAt0 (hL : zLY Z t u) {x : Int32} (hx : x < 0 ∨ nI 3 ≤ x) : zE d kX3_slotAt 0 [some (.ref 67), some (.int x)] [] Z I J (some .null, Z, I, J) := by
  have fin : zE d kX3_slotAt 22 [some (.ref 67), some (.int x)] [] Z I J (some .null, Z, I, J) := by
    refine ex_step (pc' := 23) dX3_slotAt_22 rfl ?_
    exact ex_ret (v := some .null) ⟨dX3_slotAt_23, _, rfl⟩
  refine ex_step (pc' := 1) dX3_slotAt_0 rfl ?_
  refine ex_if (pc' := 22) dX3_slotAt_1 (by decide) (fun _ => fin) (fun c => ?_)
  refine ex_step (pc' := 5) dX3_slotAt_4 rfl ?_
  refine ex_step (pc' := 6) dX3_slotAt_5 rfl ?_
  refine ex_getr dX3_slotAt_6 wf_RX3_17 (ly_a67 hL) rfl (ly_r67_2 hL) ?_
  refine ex_alen dX3_slotAt_9 (Or.inl ⟨ly_a69 hL, by decide, by decide⟩) ?_
  exact ex_icmp (pc' := 22) dX3_slotAt_10 (by decide) (fun _ => fin) (fun c2 => absurd (hx.resolve_left c) c2)
theorem C_keep0 (hL : zLY Z t u) {x : Int32} (hx : x < 0 ∨ nI 3 ≤ x) {d1 : Nat} : zE (d + 1) kX3_keep 0 [some (.ref 67), some (.int x), some (.ref d1), none] [] Z I J (some (.int 0), Z, I, J) := by
  refine ex_step (pc' := 1) dX3_keep_0 rfl ?_
  refine ex_step (pc' := 2) dX3_keep_1 rfl ?_
  refine ex_callV (as := [.int x]) (st := []) (ci := 3) dX3_keep_2 zmX3_slotAt zl_RX3_48 ziX3_slotAt zvX3_slotAt (by decide) (ly_a67 hL) rfl (Nat.le_of_ble_eq_true rfl) (Nat.le_of_ble_eq_true rfl) (C_slotAt0 hL hx) ?_
  refine ex_step (pc' := 6) (ls' := [some (.ref 67), some (.int x), some (.ref d1), some .null]) (st' := []) dX3_keep_5 rfl ?_
  refine ex_step (pc' := 7) dX3_keep_6 rfl ?_
  refine ex_step (pc' := 10) dX3_keep_7 rfl ?_
  refine ex_step (pc' := 11) (st' := [.int 0]) dX3_keep_10 rfl ?_
  exact ex_ret (v := some (.int 0)) ⟨dX3_keep_11, _, rfl, rfl⟩
theorem C_keep (hL : zLY Z t u) {s d1 : Nat} (hs : s < 3) (hc : zE d kX0_copy 0 [some (.ref (371 + 10 * s)), some (.ref d1)] [] Z I J (none, Z, I1, J)) : zE (d + 1) kX3_keep 0 [some (.ref 67), some (.int (nI s)), some (.ref d1), none] [] Z I J (some (.int 1), Z, zu I1 70 s 1, J) := by
  refine ex_step (pc' := 1) dX3_keep_0 rfl ?_
  refine ex_step (pc' := 2) dX3_keep_1 rfl ?_
  refine ex_callV (as := [.int (nI s)]) (st := []) (ci := 3) dX3_keep_2 zmX3_slotAt zl_RX3_48 ziX3_slotAt zvX3_slotAt (by decide) (ly_a67 hL) rfl (Nat.le_of_ble_eq_true rfl) (Nat.le_of_ble_eq_true rfl) (C_slotAt hL hs) ?_
  refine ex_step (pc' := 6) (ls' := [some (.ref 67), some (.int (nI s)), some (.ref d1), some (.ref (371 + 10 * s))]) (st' := []) dX3_keep_5 rfl ?_
  refine ex_step (pc' := 7) dX3_keep_6 rfl ?_
  refine ex_step (pc' := 12) dX3_keep_7 rfl ?_
  refine ex_step (pc' := 13) dX3_keep_12 rfl ?_
  refine ex_step (pc' := 14) dX3_keep_13 rfl ?_
  refine ex_callV (as := [.ref d1]) (st := []) (ci := 0) dX3_keep_14 zmX0_copy zl_RX3_38 ziX0_copy zvX0_copy (by decide) (zDy_o (ly_slot hL hs).1) rfl (Nat.le_of_ble_eq_true rfl) (Nat.le_of_ble_eq_true rfl) hc ?_
  refine ex_step (pc' := 18) dX3_keep_17 rfl ?_
  refine ex_getr dX3_keep_18 wf_RX3_20 (ly_a67 hL) rfl (ly_r67_3 hL) ?_
  refine ex_step (pc' := 22) dX3_keep_21 rfl ?_
  refine ex_step (pc' := 23) (st' := [.int 1, .int (nI s), .ref 70]) dX3_keep_22 rfl ?_
  refine ex_callS (as := [.ref 70, .int (nI s), .int 1]) (st := []) dX3_keep_23 zmX11_put zl_RX3_52 zsX11_put rfl (Nat.le_of_ble_eq_true rfl) (Nat.le_of_ble_eq_true rfl) (S_put' (by decide) (ly_a70 hL)) ?_
  rw [zptI hs (by decide)]
  refine ex_step (pc' := 27) (st' := [.int 1]) dX3_keep_26 rfl ?_
  exact ex_ret (v := some (.int 1)) ⟨dX3_keep_27, _, rfl, rfl⟩
theorem C_goOn0 (hL : zLY Z t u) {x : Int32} (hx : x < 0 ∨ nI 3 ≤ x) {d1 : Nat} : zE (d + 1) kX3_goOnFrom 0 [some (.ref 67), some (.int x), some (.ref d1), none] [] Z I J (some (.int 0), Z, I, J) := by
  refine ex_step (pc' := 1) dX3_goOnFrom_0 rfl ?_
  refine ex_step (pc' := 2) dX3_goOnFrom_1 rfl ?_
  refine ex_callV (as := [.int x]) (st := []) (ci := 3) dX3_goOnFrom_2 zmX3_slotAt zl_RX3_48 ziX3_slotAt zvX3_slotAt (by decide) (ly_a67 hL) rfl (Nat.le_of_ble_eq_true rfl) (Nat.le_of_ble_eq_true rfl) (C_slotAt0 hL hx) ?_
  refine ex_step (pc' := 6) (ls' := [some (.ref 67), some (.int x), some (.ref d1), some .null]) (st' := []) dX3_goOnFrom_5 rfl ?_
  refine ex_step (pc' := 7) dX3_goOnFrom_6 rfl ?_
  refine ex_step (pc' := 21) dX3_goOnFrom_7 rfl ?_
  refine ex_step (pc' := 22) (st' := [.int 0]) dX3_goOnFrom_21 rfl ?_
  exact ex_ret (v := some (.int 0)) ⟨dX3_goOnFrom_22, _, rfl, rfl⟩
theorem C_goOnE (hL : zLY Z t u) {s d1 : Nat} (hs : s < 3) (he : I 70 s = 0) : zE (d + 1) kX3_goOnFrom 0 [some (.ref 67), some (.int (nI s)), some (.ref d1), none] [] Z I J (some (.int 0), Z, I, J) := by
  refine ex_step (pc' := 1) dX3_goOnFrom_0 rfl ?_
  refine ex_step (pc' := 2) dX3_goOnFrom_1 rfl ?_
  refine ex_callV (as := [.int (nI s)]) (st := []) (ci := 3) dX3_goOnFrom_2 zmX3_slotAt zl_RX3_48 ziX3_slotAt zvX3_slotAt (by decide) (ly_a67 hL) rfl (Nat.le_of_ble_eq_true rfl) (Nat.le_of_ble_eq_true rfl) (C_slotAt hL hs) ?_
  refine ex_step (pc' := 6) (ls' := [some (.ref 67), some (.int (nI s)), some (.ref d1), some (.ref (371 + 10 * s))]) (st' := []) dX3_goOnFrom_5 rfl ?_
  refine ex_step (pc' := 7) dX3_goOnFrom_6 rfl ?_
  refine ex_step (pc' := 10) dX3_goOnFrom_7 rfl ?_
  refine ex_step (pc' := 11) dX3_goOnFrom_10 rfl ?_
  refine ex_getr dX3_goOnFrom_11 wf_RX3_20 (ly_a67 hL) rfl (ly_r67_3 hL) ?_
  refine ex_step (pc' := 15) dX3_goOnFrom_14 rfl ?_
  refine ex_callS (as := [.ref 70, .int (nI s)]) (st := []) dX3_goOnFrom_15 zmX11_at zl_RX3_56 zsX11_at rfl (Nat.le_of_ble_eq_true rfl) (Nat.le_of_ble_eq_true rfl) (S_at' (by decide) (ly_a70 hL)) ?_
  rw [zatI hs (by decide), he]
  refine ex_if (pc' := 23) dX3_goOnFrom_18 (by decide) (fun c => absurd rfl c) (fun _ => ?_)
  refine ex_step (pc' := 22) (st' := [.int 0]) dX3_goOnFrom_21 rfl ?_
  exact ex_ret (v := some (.int 0)) ⟨dX3_goOnFrom_22, _, rfl, rfl⟩
theorem C_goOn (hL : zLY Z t u) {s d1 : Nat} (hs : s < 3) (he : ¬ I 70 s = 0) (hd1 : zDy Z d1) (hc : zE d kX0_copy 0 [some (.ref d1), some (.ref (371 + 10 * s))] [] Z I J (none, Z, I1, J)) : zE (d + 1) kX3_goOnFrom 0 [some (.ref 67), some (.int (nI s)), some (.ref d1), none] [] Z I J (some (.int 1), Z, zu I1 67 0 0, J) := by
  refine ex_step (pc' := 1) dX3_goOnFrom_0 rfl ?_
  refine ex_step (pc' := 2) dX3_goOnFrom_1 rfl ?_
  refine ex_callV (as := [.int (nI s)]) (st := []) (ci := 3) dX3_goOnFrom_2 zmX3_slotAt zl_RX3_48 ziX3_slotAt zvX3_slotAt (by decide) (ly_a67 hL) rfl (Nat.le_of_ble_eq_true rfl) (Nat.le_of_ble_eq_true rfl) (C_slotAt hL hs) ?_
  refine ex_step (pc' := 6) (ls' := [some (.ref 67), some (.int (nI s)), some (.ref d1), some (.ref (371 + 10 * s))]) (st' := []) dX3_goOnFrom_5 rfl ?_
  refine ex_step (pc' := 7) dX3_goOnFrom_6 rfl ?_
  refine ex_step (pc' := 10) dX3_goOnFrom_7 rfl ?_
  refine ex_step (pc' := 11) dX3_goOnFrom_10 rfl ?_
  refine ex_getr dX3_goOnFrom_11 wf_RX3_20 (ly_a67 hL) rfl (ly_r67_3 hL) ?_
  refine ex_step (pc' := 15) dX3_goOnFrom_14 rfl ?_
  refine ex_callS (as := [.ref 70, .int (nI s)]) (st := []) dX3_goOnFrom_15 zmX11_at zl_RX3_56 zsX11_at rfl (Nat.le_of_ble_eq_true rfl) (Nat.le_of_ble_eq_true rfl) (S_at' (by decide) (ly_a70 hL)) ?_
  rw [zatI hs (by decide)]
  refine ex_if (pc' := 23) dX3_goOnFrom_18 (by decide) (fun _ => ?_) (fun c => absurd he c)
  refine ex_step (pc' := 24) dX3_goOnFrom_23 rfl ?_
  refine ex_step (pc' := 25) dX3_goOnFrom_24 rfl ?_
  refine ex_callV (as := [.ref (371 + 10 * s)]) (st := []) (ci := 0) dX3_goOnFrom_25 zmX0_copy zl_RX3_38 ziX0_copy zvX0_copy (by decide) (zDy_o hd1) rfl (Nat.le_of_ble_eq_true rfl) (Nat.le_of_ble_eq_true rfl) hc ?_
  refine ex_step (pc' := 29) dX3_goOnFrom_28 rfl ?_
  refine ex_step (pc' := 30) (st' := [.int 0, .ref 67]) dX3_goOnFrom_29 rfl ?_
  refine ex_putiN dX3_goOnFrom_30 (wp_RX3_25 _) (ly_a67 hL) rfl ⟨rfl, rfl⟩ (fun I2 e2 => ?_)
  rw [← e2]
  refine ex_step (pc' := 34) (st' := [.int 1]) dX3_goOnFrom_33 rfl ?_
  exact ex_ret (v := some (.int 1)) ⟨dX3_goOnFrom_34, _, rfl, rfl⟩
end
