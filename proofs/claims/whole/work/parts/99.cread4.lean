/-! the class's read, from its first word -/
section
variable {Z : zZ} {I I1 I2 I3 I5 I6 : zI} {J J1 J2 : zJ} {t u : Nat} {v : Int32} {o : zO}
theorem C_readw (hL : zLY Z t u) (h1 : zE 9 kX5_begin 0 [some (.ref 2), some (.ref 1), some (.int (I 0 1))] [] Z I J (none, Z, I1, J1)) (h2 : zE 9 kX5_readTells 0 [some (.ref 2), none] [] Z (zu I1 0 1 0) J1 (none, Z, I2, J2)) (h3 : zE 9 kX5_finish 0 [some (.ref 2)] [] Z I2 J2 (some (.int v), Z, I3, J2)) (h : zE 10 kX11_read 35 [some (.ref 0), some (.int v), none] [] Z I3 J2 o) : zE 10 kX11_read 0 [some (.ref 0), none, none] [] Z I J o := by
  refine ex_step (pc' := 1) dX11_read_0 rfl ?_
  refine ex_getr dX11_read_1 wf_RX11_20 (ly_a0 hL) rfl (ly_r0_3 hL) ?_
  refine ex_step (pc' := 5) dX11_read_4 rfl ?_
  refine ex_getr dX11_read_5 wf_RX11_9 (ly_a0 hL) rfl (ly_r0_0 hL) ?_
  refine ex_step (pc' := 9) dX11_read_8 rfl ?_
  refine ex_geti dX11_read_9 wf_RX11_87 (ly_a0 hL) rfl ?_
  refine ex_callV (as := [.ref 1, .int (I 0 1)]) (st := []) (ci := 5) dX11_read_12 zmX5_begin zl_RX11_98 ziX5_begin zvX5_begin (by decide) (ly_a2 hL) rfl (Nat.le_of_ble_eq_true rfl) (Nat.le_of_ble_eq_true rfl) h1 ?_
  refine ex_step (pc' := 16) dX11_read_15 rfl ?_
  refine ex_step (pc' := 17) (st' := [.int 0, .ref 0]) dX11_read_16 rfl ?_
  refine ex_puti dX11_read_17 (wp_RX11_87 _) (ly_a0 hL) rfl ⟨rfl, rfl⟩ ?_
  refine ex_step (pc' := 21) dX11_read_20 rfl ?_
  refine ex_getr dX11_read_21 wf_RX11_20 (ly_a0 hL) rfl (ly_r0_3 hL) ?_
  refine ex_callV (as := []) (st := []) (ci := 5) dX11_read_24 zmX5_readTells zl_RX11_101 ziX5_readTells zvX5_readTells (by decide) (ly_a2 hL) rfl (Nat.le_of_ble_eq_true rfl) (Nat.le_of_ble_eq_true rfl) h2 ?_
  refine ex_step (pc' := 28) dX11_read_27 rfl ?_
  refine ex_getr dX11_read_28 wf_RX11_20 (ly_a0 hL) rfl (ly_r0_3 hL) ?_
  refine ex_callV (as := []) (st := []) (ci := 5) dX11_read_31 zmX5_finish zl_RX11_104 ziX5_finish zvX5_finish (by decide) (ly_a2 hL) rfl (Nat.le_of_ble_eq_true rfl) (Nat.le_of_ble_eq_true rfl) h3 ?_
  refine ex_step (pc' := 35) (ls' := [some (.ref 0), some (.int v), none]) dX11_read_34 rfl ?_
  exact h
theorem C_readf (hL : zLY Z t u) (hv : ¬ v = 0) : zE 10 kX11_read 35 [some (.ref 0), some (.int v), none] [] Z I3 J2 (some (.int v), Z, zu I3 0 2 (I3 2 1), J2) := by
  refine ex_step (pc' := 36) dX11_read_35 rfl ?_
  refine ex_if (pc' := 52) dX11_read_36 (by decide) (fun c => absurd c hv) (fun c => ?_)
  refine ex_step (pc' := 40) dX11_read_39 rfl ?_
  refine ex_step (pc' := 41) dX11_read_40 rfl ?_
  refine ex_getr dX11_read_41 wf_RX11_20 (ly_a0 hL) rfl (ly_r0_3 hL) ?_
  refine ex_geti dX11_read_44 wf_RX11_108 (ly_a2 hL) rfl ?_
  refine ex_puti dX11_read_47 (wp_RX11_13 _) (ly_a0 hL) rfl ⟨rfl, rfl⟩ ?_
  refine ex_step (pc' := 51) dX11_read_50 rfl ?_
  exact ex_ret (v := some (.int v)) ⟨dX11_read_51, _, rfl, rfl⟩
theorem C_reado (hL : zLY Z t u) (hv : v = 0) (h5 : zE 9 kX0_begin 0 [some (.ref 47), some (.ref u)] [] (zZr (zZr Z 2 0 t) 0 4 u) (zu I3 0 2 (-1)) J2 (none, zZr (zZr Z 2 0 t) 0 4 u, I5, J2)) (h6 : zE 9 kX3_empty 0 [some (.ref 67)] [] (zZr (zZr Z 2 0 t) 0 4 u) I5 J2 (none, zZr (zZr Z 2 0 t) 0 4 u, I6, J2)) : zE 10 kX11_read 35 [some (.ref 0), some (.int v), none] [] Z I3 J2 (some (.int 0), zZr (zZr Z 2 0 t) 0 4 u, zu I6 415 0 0, J2) := by
  have hL' := zLY_swap hL
  have i00 : zis (zZr Z 2 0 t) 0 0 11 := ly_a0 (Z := Z) hL
  refine ex_step (pc' := 36) dX11_read_35 rfl ?_
  refine ex_if (pc' := 52) dX11_read_36 (by decide) (fun c => ?_) (fun c => absurd hv c)
  refine ex_step (pc' := 53) dX11_read_52 rfl ?_
  refine ex_step (pc' := 54) (st' := [.int (-1), .ref 0]) dX11_read_53 rfl ?_
  refine ex_puti dX11_read_54 (wp_RX11_13 _) (ly_a0 hL) rfl ⟨rfl, rfl⟩ ?_
  refine ex_step (pc' := 58) dX11_read_57 rfl ?_
  refine ex_getr dX11_read_58 wf_RX11_20 (ly_a0 hL) rfl (ly_r0_3 hL) ?_
  refine ex_getr dX11_read_61 wf_RX11_111 (ly_a2 hL) rfl (ly_rtext hL) ?_
  refine ex_step (pc' := 65) (ls' := [some (.ref 0), some (.int v), some (.ref u)]) dX11_read_64 rfl ?_
  refine ex_step (pc' := 66) dX11_read_65 rfl ?_
  refine ex_getr dX11_read_66 wf_RX11_20 (ly_a0 hL) rfl (ly_r0_3 hL) ?_
  refine ex_step (pc' := 70) dX11_read_69 rfl ?_
  refine ex_getr dX11_read_70 wf_RX11_27 (ly_a0 hL) rfl (ly_text hL) ?_
  refine ex_putr dX11_read_73 (wp_RX11_111 _) (ly_a2 hL) rfl ?_
  refine ex_step (pc' := 77) dX11_read_76 rfl ?_
  refine ex_step (pc' := 78) dX11_read_77 rfl ?_
  refine ex_putr dX11_read_78 (wp_RX11_27 _) i00 rfl ?_
  refine ex_step (pc' := 82) dX11_read_81 rfl ?_
  refine ex_getr dX11_read_82 wf_RX11_34 (ly_a0 hL') rfl (ly_r0_5 hL') ?_
  refine ex_step (pc' := 86) dX11_read_85 rfl ?_
  refine ex_getr dX11_read_86 wf_RX11_27 (ly_a0 hL') rfl (ly_text hL') ?_
  refine ex_callV (as := [.ref u]) (st := []) (ci := 0) dX11_read_89 zmX0_begin zl_RX11_83 ziX0_begin zvX0_begin (by decide) (zDy_o (ly_d47 hL')) rfl (Nat.le_of_ble_eq_true rfl) (Nat.le_of_ble_eq_true rfl) h5 ?_
  refine ex_step (pc' := 93) dX11_read_92 rfl ?_
  refine ex_getr dX11_read_93 wf_RX11_44 (ly_a0 hL') rfl (ly_r0_7 hL') ?_
  refine ex_callV (as := []) (st := []) (ci := 3) dX11_read_96 zmX3_empty zl_RX11_112 ziX3_empty zvX3_empty (by decide) (ly_a67 hL') rfl (Nat.le_of_ble_eq_true rfl) (Nat.le_of_ble_eq_true rfl) h6 ?_
  refine ex_step (pc' := 100) dX11_read_99 rfl ?_
  refine ex_getr dX11_read_100 wf_RX11_79 (ly_a0 hL') rfl (ly_r0_12 hL') ?_
  refine ex_step (pc' := 104) (st' := [.int 0, .ref 415]) dX11_read_103 rfl ?_
  refine ex_puti dX11_read_104 (wp_RX11_115 _) (ly_a415 hL') rfl ⟨rfl, rfl⟩ ?_
  refine ex_step (pc' := 108) dX11_read_107 rfl ?_
  exact ex_ret (v := some (.int 0)) ⟨dX11_read_108, _, rfl, rfl⟩
end
section
variable {d : Nat} {Z : zZ} {I I' : zI} {J J' : zJ} {t u L : Nat} {B DX DY ρ : Nat → Nat}
/-- the class reads -/
theorem C_read (hL : zLY Z t u) (hu : u = 3 ∨ u = 30) (hB : zBc I B L) (hl : I 0 1 = nI L) (hJ : zKc J) (hS : zSg I) (hD : ∀ m, m < (zrdS B L).2.2.1 0 0 → DX m = (zrdS B L).2.2.1 1 m ∧ DY m = (zrdS B L).2.2.1 2 m) : ∃ (r : Int32) (Z' : zZ) (I' : zI) (J' : zJ), zE 10 kX11_read 0 [some (.ref 0), none, none] [] Z I J (some (.int r), Z', I', J') ∧ (∀ a, a ≠ 24 → a ≠ u + 16 → J' a = J a) ∧ match zfin (zrdS B L) with
  | .error e => (Z' = Z ∧ r = nI e.1 ∧ 1 ≤ e.1 ∧ e.1 ≤ 6) ∧ I' 0 1 = 0 ∧ I' 0 2 = nI (zplc B L e.2) ∧ (∀ k, k ≠ 1 → k ≠ 2 → I' 0 k = I 0 k) ∧ ∀ a, a ≠ 0 → a ≠ 2 → ¬ (20 ≤ a ∧ a ≤ 29) → ¬ (u ≤ a ∧ a ≤ u + 16) → I' a = I a
  | .ok _ => (Z' = zZr (zZr Z 2 0 t) 0 4 u ∧ r = 0) ∧ (zCT I' u (zt9 (zrdS B L).2.2.1 (zrdS B L).2.2.2.1) (zrdS B L).2.2.2.1 ∧ zTW (zt9 (zrdS B L).2.2.1 (zrdS B L).2.2.2.1) (zrdS B L).2.2.2.1) ∧
    (zCD I' 47 (zt9 (zrdS B L).2.2.1 (zrdS B L).2.2.2.1) (zbg DX DY ρ) ∧ I' 47 0 = 0 ∧ I' 55 = I 55) ∧ (I' 67 0 = 0 ∧ (∀ k, k ≠ 0 → I' 67 k = I 67 k) ∧ ∀ k, k < 3 → I' 70 k = 0) ∧ (I' 415 0 = 0 ∧ ∀ k, k ≠ 0 → I' 415 k = I 415 k) ∧
    I' 0 1 = 0 ∧ I' 0 2 = -1 ∧ (∀ k, k ≠ 1 → k ≠ 2 → I' 0 k = I 0 k) ∧ ∀ a, a ≠ 0 → a ≠ 2 → ¬ (20 ≤ a ∧ a ≤ 29) → ¬ (u ≤ a ∧ a ≤ u + 16) → ¬ (47 ≤ a ∧ a ≤ 56) → a ≠ 67 → a ≠ 70 → a ≠ 415 → I' a = I a := by
  obtain ⟨I1, J1, I2, J2, I3, v, h1, h2, h3, hE1, hE2, hE3⟩ := C_read3 hL hu hB hJ hS
  rw [← hl] at h1
  have W := fun o h => C_readw (o := o) hL h1 h2 h3 h
  have f0 : ∀ k, k ≠ 1 → I3 0 k = I 0 k := fun k p => by rw [hE1 0 (by decide) (by decide) (by omega), zu_k p]
  have f1 : I3 0 1 = 0 := by rw [hE1 0 (by decide) (by decide) (by omega), zu_eq]
  have fr : ∀ a, a ≠ 0 → a ≠ 2 → ¬ (20 ≤ a ∧ a ≤ 29) → ¬ (u ≤ a ∧ a ≤ u + 16) → I3 a = I a := fun a p q r s => by rw [hE1 a q r s, zu_ne p]
  cases hz : zfin (zrdS B L) with
  | error e =>
    rw [hz] at hE3
    obtain ⟨⟨e1, e6⟩, e2, e3⟩ := hE3
    have hv : ¬ v = 0 := by rw [e2]; exact nI_ne0 (by omega) (by omega)
    exact ⟨v, Z, _, J2, W _ (C_readf hL hv), hE2, ⟨rfl, e2, e1, e6⟩, by rw [zu_k (by decide)]; exact f1, by rw [zu_eq]; exact e3, fun k p q => by rw [zu_k q]; exact f0 k p, fun a p q r s => by rw [zu_ne p]; exact fr a p q r s⟩
  | ok t1 =>
    rw [hz] at hE3
    obtain ⟨e1, e2, e3⟩ := hE3
    have hL' := zLY_swap hL
    obtain ⟨I4, e4⟩ : ∃ I4 : zI, I4 = zu I3 0 2 (-1) := ⟨_, rfl⟩
    have r4 : ∀ a, a ≠ 0 → I4 a = I3 a := fun a p => by rw [e4, zu_ne p]
    have hT4 : zCT I4 u (zt9 (zrdS B L).2.2.1 (zrdS B L).2.2.2.1) (zrdS B L).2.2.2.1 := e2.same (fun a p q _ _ => r4 a (by omega))
    obtain ⟨I5, g1, g2, g3, g4, g5⟩ := C_begin (d := 7) (J := J2) (I := I4) (ρ := ρ) (DX := DX) (DY := DY) (ly_d47 hL') (ly_tx hL') (by omega) e3 hT4 (fun m hm => by rw [zt9_b (by decide), zt9_b (by decide)]; rw [zt9_b (by decide)] at hm; exact hD m hm)
    obtain ⟨I6, e6⟩ : ∃ I6 : zI, I6 = zrw (zu I5 67 0 0) 70 0 (fun _ => 0) 3 := ⟨_, rfl⟩
    have h6 : zE 9 kX3_empty 0 [some (.ref 67)] [] (zZr (zZr Z 2 0 t) 0 4 u) I5 J2 (none, zZr (zZr Z 2 0 t) 0 4 u, I6, J2) := BX3_empty_0 hL' (fun x ex => ⟨I6, by rw [ex, e6]; exact S_fill (by decide) (ly_a70 hL'), rfl⟩)
    have r6 : ∀ a, a ≠ 67 → a ≠ 70 → I6 a = I5 a := fun a p q => by rw [e6, zrw_ne q, zu_ne p]
    obtain ⟨I7, e7⟩ : ∃ I7 : zI, I7 = zu I6 415 0 0 := ⟨_, rfl⟩
    have r7 : ∀ a, a ≠ 415 → I7 a = I6 a := fun a p => by rw [e7, zu_ne p]
    have rr : ∀ a, a ≠ 67 → a ≠ 70 → a ≠ 415 → I7 a = I5 a := fun a p q r => (r7 a r).trans (r6 a p q)
    have z67 : ∀ k, I5 67 k = I 67 k := fun k => by rw [g5 67 (by omega), r4 67 (by decide), fr 67 (by decide) (by decide) (by omega) (by omega)]
    refine ⟨0, _, I7, J2, W _ (by rw [e7]; exact C_reado hL e1 (by rw [← e4]; exact g1) h6), hE2, ⟨rfl, rfl⟩, ⟨hT4.same (fun a p q _ _ => by rw [rr a (by omega) (by omega) (by omega), g5 a (by omega)]), e3⟩, ⟨g2.same (fun a p q => rr a (by omega) (by omega) (by omega)), by rw [rr 47 (by decide) (by decide) (by decide)]; exact g3, by rw [rr 55 (by decide) (by decide) (by decide), g4, r4 55 (by decide), fr 55 (by decide) (by decide) (by omega) (by omega)]⟩, ⟨?_, fun k p => ?_, fun k p => ?_⟩, ⟨?_, fun k p => ?_⟩, ?_, ?_, fun k p q => ?_, fun a p1 p2 p3 p4 p5 p6 p7 p8 => ?_⟩
    · rw [r7 67 (by decide), e6, zrw_ne (by decide), zu_eq]
    · rw [r7 67 (by decide), e6, zrw_ne (by decide), zu_k p]; exact z67 k
    · rw [r7 70 (by decide), e6, zrw_at0 p]
    · rw [e7, zu_eq]
    · rw [e7, zu_k p, r6 415 (by decide) (by decide), g5 415 (by omega), r4 415 (by decide), fr 415 (by decide) (by decide) (by omega) (by omega)]
    · rw [rr 0 (by decide) (by decide) (by decide), g5 0 (by omega), e4, zu_k (by decide)]; exact f1
    · rw [rr 0 (by decide) (by decide) (by decide), g5 0 (by omega), e4, zu_eq]
    · rw [rr 0 (by decide) (by decide) (by decide), g5 0 (by omega), e4, zu_k q]; exact f0 k p
    · rw [rr a p6 p7 p8, g5 a p5, r4 a p1, fr a p1 p2 p3 p4]
end
