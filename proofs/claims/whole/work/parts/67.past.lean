/-! what is kept of days: the class's methods, step by step -/
section
variable {d : Nat} {Z : zZ} {J : zJ} {I I' I1 : zI} {t u v b : Nat}
def znxt (k : Nat) : Nat := if k + 1 < 30 then k + 1 else 0
def zprv (k : Nat) : Nat := if 0 < k then k - 1 else 29
theorem C_remember (hL : zLY Z t u) {nx n d1 : Nat} (hnx : nx < 30) (hn : n ≤ 30) (h4 : I1 67 4 = nI nx) (h0 : I1 67 0 = nI n) (h4' : I 67 4 = nI nx)
    (hc : zE d kX0_copy 0 [some (.ref (71 + 10 * nx)), some (.ref d1)] [] Z I J (none, Z, I1, J)) :
    zE (d + 1) kX3_remember 0 [some (.ref 67), some (.ref d1), none] [] Z I J (none, Z, zu (zu I1 67 4 (nI (znxt nx))) 67 0 (nI (if n < 30 then n + 1 else 30)), J) := by
  have nn : ¬ nI nx < 0 := zneg (by omega)
  refine ex_step (pc' := 1) dX3_remember_0 rfl ?_
  refine ex_geti dX3_remember_1 wf_RX3_35 (ly_a67 hL) rfl ?_
  rw [h4']
  refine ex_if (pc' := 31) dX3_remember_4 (by decide) (fun c => absurd c nn) (fun _ => ?_)
  refine ex_step (pc' := 8) dX3_remember_7 rfl ?_
  refine ex_geti dX3_remember_8 wf_RX3_35 (ly_a67 hL) rfl ?_
  rw [h4']
  refine ex_step (pc' := 12) dX3_remember_11 rfl ?_
  refine ex_getr dX3_remember_12 wf_RX3_11 (ly_a67 hL) rfl (ly_r67_1 hL) ?_
  refine ex_alen dX3_remember_15 (Or.inl ⟨ly_a68 hL, by decide, by decide⟩) ?_
  refine ex_icmp (pc' := 31) dX3_remember_16 (by decide) (fun c => ?_) (fun _ => ?_)
  · exfalso
    have c' : nI 30 ≤ nI nx := c
    rw [zle' (by decide) (by omega)] at c'; omega
  refine ex_step (pc' := 20) dX3_remember_19 rfl ?_
  refine ex_getr dX3_remember_20 wf_RX3_11 (ly_a67 hL) rfl (ly_r67_1 hL) ?_
  refine ex_step (pc' := 24) dX3_remember_23 rfl ?_
  refine ex_geti dX3_remember_24 wf_RX3_35 (ly_a67 hL) rfl ?_
  rw [h4']
  refine ex_aald (b := 71 + 10 * nx) dX3_remember_27 (ly_a68 hL) (zvin hnx (by decide)) (by rw [zclm (by omega)]; exact (ly_kept hL hnx).2) ?_
  refine ex_step (pc' := 32) dX3_remember_28 rfl ?_
  refine ex_step (pc' := 33) (ls' := [some (.ref 67), some (.ref d1), some (.ref (71 + 10 * nx))]) dX3_remember_32 rfl ?_
  refine ex_step (pc' := 34) dX3_remember_33 rfl ?_
  refine ex_step (pc' := 37) dX3_remember_34 rfl ?_
  refine ex_step (pc' := 38) dX3_remember_37 rfl ?_
  refine ex_step (pc' := 39) dX3_remember_38 rfl ?_
  refine ex_callV (as := [.ref d1]) (st := []) (ci := 0) dX3_remember_39 zmX0_copy zl_RX3_38 ziX0_copy zvX0_copy (by decide) (zDy_o (ly_kept hL hnx).1) rfl (Nat.le_of_ble_eq_true rfl) (Nat.le_of_ble_eq_true rfl) hc ?_
  refine ex_step (pc' := 43) dX3_remember_42 rfl ?_
  refine ex_step (pc' := 44) dX3_remember_43 rfl ?_
  refine ex_geti dX3_remember_44 wf_RX3_35 (ly_a67 hL) rfl ?_
  rw [h4]
  refine ex_step (pc' := 48) (st' := [.int 1, .int (nI nx), .ref 67]) dX3_remember_47 rfl ?_
  refine ex_step (pc' := 49) (st' := [.int (nI nx + 1), .ref 67]) dX3_remember_48 rfl ?_
  refine ex_step (pc' := 51) (st' := [.int 30, .int (nI nx + 1), .ref 67]) dX3_remember_49 rfl ?_
  have fin : ∀ I2 : zI, I2 = zu I1 67 4 (nI (znxt nx)) → zE (d + 1) kX3_remember 67 [some (.ref 67), some (.ref d1), some (.ref (71 + 10 * nx))] [] Z I2 J (none, Z, zu (zu I1 67 4 (nI (znxt nx))) 67 0 (nI (if n < 30 then n + 1 else 30)), J) := by
    intro I2 e2
    have e0 : I2 67 0 = nI n := by rw [e2, zu_k (by decide)]; exact h0
    refine ex_step (pc' := 68) dX3_remember_67 rfl ?_
    refine ex_step (pc' := 69) dX3_remember_68 rfl ?_
    refine ex_geti dX3_remember_69 wf_RX3_25 (ly_a67 hL) rfl ?_
    rw [e0]
    refine ex_step (pc' := 73) (st' := [.int 1, .int (nI n), .ref 67]) dX3_remember_72 rfl ?_
    refine ex_step (pc' := 74) (st' := [.int (nI n + 1), .ref 67]) dX3_remember_73 rfl ?_
    refine ex_step (pc' := 76) (st' := [.int 30, .int (nI n + 1), .ref 67]) dX3_remember_74 rfl ?_
    refine ex_min (by omega) dX3_remember_76 zl_RX3_42 (Nat.le_of_ble_eq_true rfl) ?_
    refine ex_putiN dX3_remember_79 (wp_RX3_25 _) (ly_a67 hL) rfl ⟨rfl, rfl⟩ (fun I3 e3 => ?_)
    have ev : (if (30 : Int32) < nI n + 1 then (30 : Int32) else nI n + 1) = nI (if n < 30 then n + 1 else 30) := by
      rw [zadd1]
      by_cases g : n < 30
      · rw [if_pos g, if_neg (by rw [show (30 : Int32) = nI 30 from rfl, zlt (by decide) (by omega)]; omega)]
      · rw [if_neg g, if_pos (by rw [show (30 : Int32) = nI 30 from rfl, zlt (by decide) (by omega)]; omega)]; rfl
    rw [ev, e2] at e3
    rw [← e3]
    exact ex_ret (v := none) ⟨dX3_remember_82, rfl⟩
  refine ex_icmp (pc' := 63) dX3_remember_51 (by decide) (fun c => ?_) (fun c => ?_)
  · have c' : nI 30 ≤ nI nx + 1 := c
    rw [zadd1, zle' (by decide) (by omega)] at c'
    refine ex_step (pc' := 64) (st' := [.int 0, .ref 67]) dX3_remember_63 rfl ?_
    refine ex_putiN dX3_remember_64 (wp_RX3_35 _) (ly_a67 hL) rfl ⟨rfl, rfl⟩ (fun I2 e2 => fin I2 ?_)
    rw [e2]; unfold znxt; rw [if_neg (by omega)]; rfl
  · have c' : ¬ nI 30 ≤ nI nx + 1 := c
    rw [zadd1, zle' (by decide) (by omega)] at c'
    refine ex_step (pc' := 55) dX3_remember_54 rfl ?_
    refine ex_geti dX3_remember_55 wf_RX3_35 (ly_a67 hL) rfl ?_
    rw [h4]
    refine ex_step (pc' := 59) (st' := [.int 1, .int (nI nx), .ref 67]) dX3_remember_58 rfl ?_
    refine ex_step (pc' := 60) (st' := [.int (nI nx + 1), .ref 67]) dX3_remember_59 rfl ?_
    refine ex_step (pc' := 64) dX3_remember_60 rfl ?_
    refine ex_putiN dX3_remember_64 (wp_RX3_35 _) (ly_a67 hL) rfl ⟨rfl, rfl⟩ (fun I2 e2 => fin I2 ?_)
    rw [e2, zadd1]; unfold znxt; rw [if_pos (by omega)]
end
