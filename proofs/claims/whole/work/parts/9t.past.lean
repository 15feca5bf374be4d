/-! the rings of days, the words, the reader: printed by wip/whole/gctor2.py -/
theorem zAlk_ne {a k : Nat} {e : Nat × Nat × Nat} {t : List (Nat × Nat × Nat)} (h : ¬ (a = e.1 ∧ k = e.2.1)) : zAlk (e :: t) a k = zAlk t a k := by
  show (if a = e.1 ∧ k = e.2.1 then some e.2.2 else zAlk t a k) = _
  rw [if_neg h]
theorem zAlk_app {a k : Nat} {rf : List (Nat × Nat × Nat)} : ∀ {l : List (Nat × Nat × Nat)}, (∀ e ∈ l, e.1 ≠ a) → zAlk (l ++ rf) a k = zAlk rf a k := by
  intro l
  induction l with
  | nil => intro _; rfl
  | cons e t ih =>
    intro h
    have h1 := h e List.mem_cons_self
    rw [List.cons_append, zAlk_ne (fun q => h1 q.1.symm)]
    exact ih (fun x hx => h x (List.mem_cons_of_mem _ hx))
theorem zrX0_1 (b : Nat) : ∀ e ∈ zrX0 b, e.1 = b := by
  unfold zrX0
  simp only [List.forall_mem_cons, List.not_mem_nil, false_implies, implies_true, and_self]
def zpS : Nat → List (Nat × Nat) → List (Nat × Nat)
  | 0, sh => sh
  | j + 1, sh => zsX0 ++ (0, 0) :: zpS j sh
def zpR (q n0 : Nat) : Nat → List (Nat × Nat × Nat) → List (Nat × Nat × Nat)
  | 0, rf => rf
  | j + 1, rf => (q, j, n0 + 10 * j) :: (zrX0 (n0 + 10 * j) ++ zpR q n0 j rf)
section
variable {d L q n0 a k j : Nat} {sh : List (Nat × Nat)} {rf : List (Nat × Nat × Nat)} {I : zI} {J : zJ} {s : Nat × Nat}
theorem zpS_sh (h : zAsh sh a = some s) : ∀ j, zAsh (zpS j sh) a = some s := by
  intro j
  induction j with
  | zero => exact h
  | succ j ih => exact zAsh_app (zAsh_c ih) _
theorem zpR_lk (ha : a ≠ q) (hn : a < n0) : ∀ j, zAlk (zpR q n0 j rf) a k = zAlk rf a k := by
  intro j
  induction j with
  | zero => rfl
  | succ j ih =>
    show zAlk ((q, j, n0 + 10 * j) :: (zrX0 (n0 + 10 * j) ++ zpR q n0 j rf)) a k = _
    rw [zAlk_ne (fun z => ha z.1), zAlk_app (fun e he => by have := zrX0_1 _ e he; omega)]
    exact ih
theorem zpS_al (hq : q < n0) (h : zAl sh rf I J n0) : ∀ j, j ≤ 40 → n0 < 1000 → zAl (zpS j sh) (zpR q n0 j rf) I J (n0 + 10 * j) := by
  intro j
  induction j with
  | zero => intro _ _; exact h
  | succ j ih =>
    intro hj hn
    have A := ih (by omega) hn
    have w := zAsh_n (s := (0, 0)) A.1
    exact ((K_X0 (L := 0) (d := 0) (a := n0 + 10 * j) A.new w (by omega)).2).put (a := q) (f := j) (b := n0 + 10 * j) (by omega)

theorem K_past1 (hA : zAl sh rf I J 71) (h67 : zAsh sh 67 = some (0, 3)) (hq : zAsh sh 68 = some (5, 30)) (hr : zAlk rf 67 1 = some 68) : ∀ j, j ≤ 30 → ∀ o, zE (d + 2) kX3_init 58 [some (.ref 67), some (.int (nI 30))] [] (zML L (zpS 30 sh) (zpR 68 71 30 rf)) I J o → zE (d + 2) kX3_init 30 [some (.ref 67), some (.int (nI j))] [] (zML L (zpS j sh) (zpR 68 71 j rf)) I J o := by
  refine zloop _ _ ?_ ?_
  · intro o ho
    have A := zpS_al (q := 68) (by decide) hA 30 (by decide) (by decide)
    have s67 := zpS_sh h67 30
    have sq := zpS_sh hq 30
    have e67 : zAlk (zpR 68 71 30 rf) 67 1 = some 68 := (zpR_lk (q := 68) (n0 := 71) (by decide) (by decide) 30).trans hr
    generalize zpS 30 sh = sh1 at *
    generalize zpR 68 71 30 rf = rf1 at *
    refine ex_step (pc' := 31) dX3_init_30 rfl ?_
    refine ex_step (pc' := 32) dX3_init_31 rfl ?_
    refine ex_getr dX3_init_32 wf_RX3_11 (A.is (by decide) s67) rfl e67 ?_
    refine ex_alen dX3_init_35 (Or.inl ⟨A.is (by decide) sq, by decide, by decide⟩) ?_
    exact ex_icmp (pc' := 58) dX3_init_36 (by decide) (fun _ => ho) (fun c => absurd (Int32.le_refl _) c)
  · intro j hj ih o ho
    have A := zpS_al (q := 68) (by decide) hA j (by omega) (by decide)
    have s67 := zpS_sh h67 j
    have sq := zpS_sh hq j
    have e67 : zAlk (zpR 68 71 j rf) 67 1 = some 68 := (zpR_lk (q := 68) (n0 := 71) (by decide) (by decide) j).trans hr
    have w := zAsh_n (s := (0, 0)) A.1
    obtain ⟨hc, A2⟩ := K_X0 (L := L) (d := d) (a := 71 + 10 * j) A.new w (by omega)
    have hi := ih o ho
    refine ex_step (pc' := 31) dX3_init_30 rfl ?_
    refine ex_step (pc' := 32) dX3_init_31 rfl ?_
    refine ex_getr dX3_init_32 wf_RX3_11 (A.is (by omega) s67) rfl e67 ?_
    refine ex_alen dX3_init_35 (Or.inl ⟨A.is (by omega) sq, by decide, by decide⟩) ?_
    refine ex_icmp (pc' := 58) dX3_init_36 (by decide) (fun c => ?_) (fun _ => ?_)
    · exfalso
      have c' : nI 30 ≤ nI j := c
      rw [zle' (by decide) (by omega)] at c'; omega
    refine ex_step (pc' := 40) dX3_init_39 rfl ?_
    refine ex_getr dX3_init_40 wf_RX3_11 (A.is (by omega) s67) rfl e67 ?_
    refine ex_step (pc' := 44) dX3_init_43 rfl ?_
    refine al_new (ci := 0) A (by omega) dX3_init_44 (by decide) zn_RX3_9 ?_
    refine ex_step (pc' := 48) dX3_init_47 rfl ?_
    refine ex_callI (as := []) (b := 71 + 10 * j) (st := [.ref (71 + 10 * j), .int (nI j), .ref 68]) dX3_init_48 zmX0_init zl_RX3_24 ziX0_init rfl rfl rfl (Nat.le_of_ble_eq_true rfl) (Nat.le_of_ble_eq_true rfl) hc ?_
    refine ex_aast dX3_init_51 (A2.is (by omega) (zAsh_app (zAsh_c sq) _)) (zvin hj (by decide)) (A2.is (by omega) (zAsh_app w _)) ?_
    rw [zclm (show j < 2147483648 by omega)]
    refine ex_step (pc' := 55) (ls' := [some (.ref 67), some (.int (nI j + 1))]) dX3_init_52 rfl ?_
    refine ex_step (pc' := 30) dX3_init_55 rfl ?_
    rw [zadd1]
    exact hi
theorem K_past2 (hA : zAl sh rf I J 371) (h67 : zAsh sh 67 = some (0, 3)) (hq : zAsh sh 69 = some (5, 3)) (hr : zAlk rf 67 2 = some 69) : ∀ j, j ≤ 3 → ∀ o, zE (d + 2) kX3_init 88 [some (.ref 67), some (.int (nI 3))] [] (zML L (zpS 3 sh) (zpR 69 371 3 rf)) I J o → zE (d + 2) kX3_init 60 [some (.ref 67), some (.int (nI j))] [] (zML L (zpS j sh) (zpR 69 371 j rf)) I J o := by
  refine zloop _ _ ?_ ?_
  · intro o ho
    have A := zpS_al (q := 69) (by decide) hA 3 (by decide) (by decide)
    have s67 := zpS_sh h67 3
    have sq := zpS_sh hq 3
    have e67 : zAlk (zpR 69 371 3 rf) 67 2 = some 69 := (zpR_lk (q := 69) (n0 := 371) (by decide) (by decide) 3).trans hr
    generalize zpS 3 sh = sh1 at *
    generalize zpR 69 371 3 rf = rf1 at *
    refine ex_step (pc' := 61) dX3_init_60 rfl ?_
    refine ex_step (pc' := 62) dX3_init_61 rfl ?_
    refine ex_getr dX3_init_62 wf_RX3_17 (A.is (by decide) s67) rfl e67 ?_
    refine ex_alen dX3_init_65 (Or.inl ⟨A.is (by decide) sq, by decide, by decide⟩) ?_
    exact ex_icmp (pc' := 88) dX3_init_66 (by decide) (fun _ => ho) (fun c => absurd (Int32.le_refl _) c)
  · intro j hj ih o ho
    have A := zpS_al (q := 69) (by decide) hA j (by omega) (by decide)
    have s67 := zpS_sh h67 j
    have sq := zpS_sh hq j
    have e67 : zAlk (zpR 69 371 j rf) 67 2 = some 69 := (zpR_lk (q := 69) (n0 := 371) (by decide) (by decide) j).trans hr
    have w := zAsh_n (s := (0, 0)) A.1
    obtain ⟨hc, A2⟩ := K_X0 (L := L) (d := d) (a := 371 + 10 * j) A.new w (by omega)
    have hi := ih o ho
    refine ex_step (pc' := 61) dX3_init_60 rfl ?_
    refine ex_step (pc' := 62) dX3_init_61 rfl ?_
    refine ex_getr dX3_init_62 wf_RX3_17 (A.is (by omega) s67) rfl e67 ?_
    refine ex_alen dX3_init_65 (Or.inl ⟨A.is (by omega) sq, by decide, by decide⟩) ?_
    refine ex_icmp (pc' := 88) dX3_init_66 (by decide) (fun c => ?_) (fun _ => ?_)
    · exfalso
      have c' : nI 3 ≤ nI j := c
      rw [zle' (by decide) (by omega)] at c'; omega
    refine ex_step (pc' := 70) dX3_init_69 rfl ?_
    refine ex_getr dX3_init_70 wf_RX3_17 (A.is (by omega) s67) rfl e67 ?_
    refine ex_step (pc' := 74) dX3_init_73 rfl ?_
    refine al_new (ci := 0) A (by omega) dX3_init_74 (by decide) zn_RX3_9 ?_
    refine ex_step (pc' := 78) dX3_init_77 rfl ?_
    refine ex_callI (as := []) (b := 371 + 10 * j) (st := [.ref (371 + 10 * j), .int (nI j), .ref 69]) dX3_init_78 zmX0_init zl_RX3_24 ziX0_init rfl rfl rfl (Nat.le_of_ble_eq_true rfl) (Nat.le_of_ble_eq_true rfl) hc ?_
    refine ex_aast dX3_init_81 (A2.is (by omega) (zAsh_app (zAsh_c sq) _)) (zvin hj (by decide)) (A2.is (by omega) (zAsh_app w _)) ?_
    rw [zclm (show j < 2147483648 by omega)]
    refine ex_step (pc' := 85) (ls' := [some (.ref 67), some (.int (nI j + 1))]) dX3_init_82 rfl ?_
    refine ex_step (pc' := 60) dX3_init_85 rfl ?_
    rw [zadd1]
    exact hi
theorem K_X3 (hA : zAl sh rf I J 68) (hs : zAsh sh 67 = some (0, 3)) : zE (d + 2) kX3_init 0 [some (.ref 67), none] [] (zML L sh rf) I J (none, zML L (zpS 3 (zpS 30 ((1, 3) :: (5, 3) :: (5, 30) :: sh))) (zpR 69 371 3 (zpR 68 71 30 ((67, 3, 70) :: (67, 2, 69) :: (67, 1, 68) :: rf))), I, J) ∧ zAl (zpS 3 (zpS 30 ((1, 3) :: (5, 3) :: (5, 30) :: sh))) (zpR 69 371 3 (zpR 68 71 30 ((67, 3, 70) :: (67, 2, 69) :: (67, 1, 68) :: rf))) I J 401 := by
  have A0 := hA
  have s0 := hs
  have A1 := A0.new (s := (5, 30))
  have s1 := zAsh_c (x := (5, 30)) s0
  have A2 := A1.put (f := 1) (b := 68) (a := 67) (by omega)
  have s2 := s1
  have A3 := A2.new (s := (5, 3))
  have s3 := zAsh_c (x := (5, 3)) s2
  have A4 := A3.put (f := 2) (b := 69) (a := 67) (by omega)
  have s4 := s3
  have A5 := A4.new (s := (1, 3))
  have s5 := zAsh_c (x := (1, 3)) s4
  have A6 := A5.put (f := 3) (b := 70) (a := 67) (by omega)
  have s6 := s5
  have B1 := zpS_al (q := 68) (n0 := 71) (by decide) A6 30 (by decide) (by decide)
  have B2 := zpS_al (q := 69) (n0 := 371) (by decide) B1 3 (by decide) (by decide)
  refine ⟨?_, B2⟩
  refine ex_step (pc' := 1) dX3_init_0 rfl ?_
  refine ex_obj (by omega) dX3_init_1 zl_RX3_3 (Nat.le_of_ble_eq_true rfl) ?_
  refine ex_step (pc' := 5) dX3_init_4 rfl ?_
  refine ex_step (pc' := 7) (st' := [.int 30, .ref 67]) dX3_init_5 rfl ?_
  refine al_newq (N := 30) A0 (by omega) dX3_init_7 zn_RX3_9 (by decide) (by decide) (by decide) ?_
  refine al_putr A1 (by omega) dX3_init_10 (wp_RX3_11 _ rfl) s1 rfl ?_
  refine ex_step (pc' := 14) dX3_init_13 rfl ?_
  refine ex_step (pc' := 15) (st' := [.int 3, .ref 67]) dX3_init_14 rfl ?_
  refine al_newq (N := 3) A2 (by omega) dX3_init_15 zn_RX3_9 (by decide) (by decide) (by decide) ?_
  refine al_putr A3 (by omega) dX3_init_18 (wp_RX3_17 _ rfl) s3 rfl ?_
  refine ex_step (pc' := 22) dX3_init_21 rfl ?_
  refine ex_step (pc' := 23) (st' := [.int 3, .ref 67]) dX3_init_22 rfl ?_
  refine al_newa (kd := 1) (N := 3) A4 (by omega) dX3_init_23 za_int rfl (by decide) (by decide) (by decide) (by decide) ?_
  refine al_putr A5 (by omega) dX3_init_25 (wp_RX3_20 _ rfl) s5 rfl ?_
  refine ex_step (pc' := 29) (st' := [.int 0]) dX3_init_28 rfl ?_
  refine ex_step (pc' := 30) (ls' := [some (.ref 67), some (.int (nI 0))]) (st' := []) dX3_init_29 rfl ?_
  refine K_past1 A6 s6 (zAsh_c (zAsh_c (zAsh_n A0.1))) rfl 0 (by decide) _ ?_
  refine ex_step (pc' := 59) (st' := [.int 0]) dX3_init_58 rfl ?_
  refine ex_step (pc' := 60) (ls' := [some (.ref 67), some (.int (nI 0))]) (st' := []) dX3_init_59 rfl ?_
  refine K_past2 B1 (zpS_sh s6 30) (zpS_sh (zAsh_c (zAsh_n A2.1)) 30) ((zpR_lk (q := 68) (n0 := 71) (a := 67) (k := 2) (by decide) (by decide) 30).trans rfl) 0 (by decide) _ ?_
  exact ex_ret (v := none) ⟨dX3_init_88, rfl⟩
end
