/-! DUSK: the two sides -/
section
variable {d : Nat} {Z : zZ} {J : zJ} {I I' : zI} {t u v b : Nat} {τ : Nat → Nat → Nat} {Λ : Nat → Option zLaw} {ρ : Nat → Nat}
theorem zall_le (hH : zH τ ρ) : zall τ ρ ≤ 420 := by
  have h := zsum_le (f := fun m => ρ (14 + m)) (b := 60) (i := 0) (k := τ 0 0) (fun j _ hj => hH.2 j (by omega))
  have := hH.1
  unfold zall; omega
theorem C_dusk (h : zR0 Z I t u v τ Λ b ρ) {rule : Nat} (hr : rule < 5) : ∃ I', zE (d + 5) kX1_pass 0 [some (.ref 413), some (.ref t), some (.ref 47), some (.ref 57), some (.int (nI rule)), none, none, none] [] Z I J (none, Z, I', J) ∧ zCE I' 57 τ (zev τ rule 421 ρ 0 0).1 ∧ I' 413 0 = nI (zev τ rule 421 ρ 0 0).2.1 ∧ I' 413 1 = nI (zev τ rule 421 ρ 0 0).2.2 ∧ zscr I I' := by
  have hb := h.1.2
  obtain ⟨I1, g1, g2, g3⟩ := C_copyE (d := d + 2) (J := J) (ly_d57 h.L) (ly_d47 h.L) (Or.inr (by decide)) h.W h.E h.D
  have hal := zall_le h.H
  have hs3 : zscr I (zu (zu I1 413 0 0) 413 1 0) := zscr.of fun a p q => by
    have ha : a ≠ 413 := fun e => p (by subst e; decide)
    rw [zu_ne ha, zu_ne ha]; exact g3 a (by omega)
  have h3 := h.sc hs3
  obtain ⟨I', k1, k2, k3, k4, k5⟩ := C_pass_loop (d := d) (J := J) h.L h.t3 h.W hr 421 0 0 0 b (zu (zu I1 413 0 0) 413 1 0) ρ rfl (by omega) (by omega) (by rw [zu_k (by decide), zu_eq]; rfl) (by rw [zu_eq]; rfl) h3.S h3.T (g2.same fun a _ _ => by rw [zu_ne (by omega), zu_ne (by omega)]) h.D h.bd
  refine ⟨I', BX1_pass_0 _ h.L (ly_tx h.L) (ly_d47 h.L) (ly_d57 h.L) ⟨I1, g1, fun I2 e2 I3 e3 => by rw [e3, e2]; exact k1⟩, k2, k3, k4, hs3.tr (zscr.of fun a p q => k5 a q (fun e => p (by subst e; decide)) (fun e => p (by subst e; decide)))⟩
theorem M_dusk (h : zR0 Z I t u v τ Λ b ρ) {rule : Nat} (hr : rule < 5) : ∃ I', zE (d + 4) kX12_duskBy 0 [some (.ref 420), some (.int (nI rule)), none, none, none, none, none] [] Z I J (none, Z, I', J) ∧ zRM I' 458 0 (zev τ rule 421 ρ 0 0).1 ∧ I' 420 64 = nI (zev τ rule 421 ρ 0 0).2.1 ∧ I' 420 65 = nI (zev τ rule 421 ρ 0 0).2.2 ∧ zscr I I' := by
  have hb := h.1.2
  obtain ⟨I1, g1, g2, g3, g4, g5⟩ := M_cop (d := d + 3) (J := J) h
  have hal := zall_le h.H
  have hs3 : zscr I1 (zu (zu I1 420 64 0) 420 65 0) := ⟨fun a _ _ r => by rw [zu_ne r, zu_ne r], fun k _ p q => by rw [zu_k q, zu_k p], fun z => z.same (by rw [zu_ne (by decide), zu_ne (by decide)])⟩
  have h3 := g2.sc hs3
  obtain ⟨I', k1, k2, k3, k4, k5⟩ := M_dusk_loop (d := d) (J := J) h.L h.W hr 421 0 0 b (zu (zu I1 420 64 0) 420 65 0) ρ (by omega) (by omega) (by decide) (by rw [zu_k (by decide), zu_eq]; rfl) (by rw [zu_eq]; rfl) h3.M (fun a ha => by rw [zu_ne (by decide), zu_ne (by decide)]; exact g3 a ha) h.D h.bd
  exact ⟨I', BX12_duskBy_0 _ h.L ⟨I1, g1, fun I2 e2 I3 e3 => by rw [e3, e2]; exact k1⟩, k2, k3, k4, (g5.tr hs3).tr (zscr.fm k5 (by decide) (by decide) (fun _ => zw.of k2 (zev_ok h.W rule 421 0 0 b ρ h.D h.bd).2.1 (by omega)))⟩
theorem Q_dusk (h : zR0 Z I t u v τ Λ b ρ) (x y : Int32) : zQ2 kX11_dusk kX12_dusk [some (.ref 0), some (.int x), some (.int y)] [some (.ref 420), some (.int x), some (.int y), none, none, none] Z I J := by
  have h7 := h.n7
  have inx : ∀ (n : Nat) (x : Int32), n < 100 → (¬ (0 ≤ x ∧ x ≤ nI n) ∧ (x < 0 ∨ ¬ x < 0 ∧ nI n < x)) ∨ ∃ k, k ≤ n ∧ x = nI k := fun n x hn => by
    rcases zix x (n := n + 1) (by omega) with g | ⟨j, hj, rfl⟩
    · left
      rcases g with g | g
      · exact ⟨fun z => absurd g (Int32.not_lt.mpr z.1), Or.inl g⟩
      · by_cases q : x < 0
        · exact ⟨fun z => absurd q (Int32.not_lt.mpr z.1), Or.inl q⟩
        · obtain ⟨j, hj, rfl⟩ := znI_ex x q
          rw [zle' (by omega) hj] at g
          refine ⟨fun z => ?_, Or.inr ⟨q, ?_⟩⟩
          · have := z.2; rw [zle' hj (by omega)] at this; omega
          · rw [zlt (by omega) hj]; omega
    · exact Or.inr ⟨j, by omega, rfl⟩
  have l4 : (nI 4 : Int32) = 4 := rfl
  have l3 : (nI 3 : Int32) = 3 := rfl
  rcases inx 4 x (by decide) with ⟨nx, nx2⟩ | ⟨rule, hr, rfl⟩
  · refine zQ2.of h (-1) ⟨I, BX11_dusk_0 (d := 4) _ _ h.L ⟨fun _ => rfl, fun q => ⟨fun _ => rfl, fun q2 => ?_⟩⟩, zscr.rf⟩ (fun I1 h => ⟨I1, BX12_dusk_0 (d := 5) _ _ h.L ⟨fun _ => rfl, fun q => absurd (zbi_ne0.mp q) nx⟩, zscr.rf⟩)
    exfalso
    rcases nx2 with z | ⟨z1, z2⟩
    · exact q z
    · obtain ⟨j, hj, rfl⟩ := znI_ex x z1
      rw [zlt (by decide) hj] at z2
      rw [show (5 : Int32) = nI 5 from rfl, zle' (by decide) hj] at q2; omega
  · have hxin : 0 ≤ nI rule ∧ nI rule ≤ (4 : Int32) := ⟨znn (by omega), by rw [← l4, zle' (by omega) (by decide)]; exact hr⟩
    have n5 : ¬ (5 : Int32) ≤ nI rule := by rw [show (5 : Int32) = nI 5 from rfl, zle' (by decide) (by omega)]; omega
    rcases inx 3 y (by decide) with ⟨ny, ny2⟩ | ⟨w, hw, rfl⟩
    · refine zQ2.of h (-1) ⟨I, BX11_dusk_0 (d := 4) _ _ h.L ⟨fun _ => rfl, fun q => ⟨fun _ => rfl, fun q2 => ⟨fun _ => rfl, fun q3 => ⟨fun q4 => ?_, fun _ => rfl⟩⟩⟩⟩, zscr.rf⟩ (fun I1 h => ⟨I1, BX12_dusk_0 (d := 5) _ _ h.L ⟨fun _ => rfl, fun q => ⟨fun q2 => absurd (zbi_ne0.mp q2) ny, fun _ => rfl⟩⟩, zscr.rf⟩)
      exact absurd ⟨Int32.not_lt.mp q3, q4⟩ ny
    · have hyin : 0 ≤ nI w ∧ nI w ≤ (3 : Int32) := ⟨znn (by omega), by rw [← l3, zle' (by omega) (by decide)]; exact hw⟩
      have ne : ∀ k, k < 5 → (nI w = nI k ↔ w = k) := fun k hk => zeq (by omega) (by omega)
      have e0 : nI w = 0 ↔ w = 0 := ne 0 (by decide)
      have e1 : nI w = 1 ↔ w = 1 := ne 1 (by decide)
      have e2 : nI w = 2 ↔ w = 2 := ne 2 (by decide)
      have e3 : nI w = 3 ↔ w = 3 := ne 3 (by decide)
      obtain ⟨ρ', hρ'⟩ : ∃ ρ', ρ' = (zev τ rule 421 ρ 0 0).1 := ⟨_, rfl⟩
      obtain ⟨D', B', -, -⟩ := zev_ok h.W rule 421 0 0 b ρ h.D h.bd
      rw [← hρ'] at D' B'
      have BB := B'.b (by have := h.1.2; omega)
      obtain ⟨r, hr0⟩ : ∃ r : Int32, r = ([nI (zev τ rule 421 ρ 0 0).2.1, nI (zev τ rule 421 ρ 0 0).2.2, nI (zbs (fun m => decide (ρ' (21 + m) = 0) && decide (ρ' (14 + m) = 0)) (τ 0 0)), nI (zbs (zthr ρ' true) (τ 0 0))] : List Int32).getD w 0 := ⟨_, rfl⟩
      have r0 : w = 0 → r = nI (zev τ rule 421 ρ 0 0).2.1 := fun e => by rw [hr0, e]; rfl
      have r1 : w = 1 → r = nI (zev τ rule 421 ρ 0 0).2.2 := fun e => by rw [hr0, e]; rfl
      have r2 : w = 2 → r = nI (zbs (fun m => decide (ρ' (21 + m) = 0) && decide (ρ' (14 + m) = 0)) (τ 0 0)) := fun e => by rw [hr0, e]; rfl
      have r3 : w = 3 → r = nI (zbs (zthr ρ' true) (τ 0 0)) := fun e => by rw [hr0, e]; rfl
      obtain ⟨I1, g1, g2, g3, g4, g5⟩ := C_dusk (d := 4) (J := J) h (rule := rule) (by omega)
      rw [← hρ'] at g2
      have h1 := h.sc g5
      refine zQ2.of h r ⟨I1, BX11_dusk_0 (d := 4) _ _ h.L ⟨fun q => absurd q (zneg (by omega)), fun _ => ⟨fun q => absurd q n5, fun _ => ⟨fun q => absurd q (zneg (by omega)), fun _ => ⟨fun _ => ⟨I1, g1, fun q0 => ⟨fun q1 => ⟨fun q3 => ⟨_, C_whose (sm := false) (ly_d57 h.L) (ly_tx h.L) h7 h1.men g2.1 BB, fun q2 => ?_, fun q2 => ⟨_, C_lostBits (ly_d57 h.L) (ly_tx h.L) h.W h1.men g2.1 D', ?_⟩⟩, fun q3 => ⟨_, C_whose (sm := true) (ly_d57 h.L) (ly_tx h.L) h7 h1.men g2.1 BB, fun q2 => ?_, fun q2 => ?_⟩⟩, fun q1 => ?_⟩, fun q0 => ?_⟩, fun q => absurd hyin.2 q⟩⟩⟩⟩, g5⟩ (fun I2 h2 => ?_)
      · exfalso
        have a0 : ¬ w = 0 := fun z => q0 (e0.mpr z)
        have a1 : ¬ w = 1 := fun z => q1 (e1.mpr z)
        have a2 : ¬ w = 2 := fun z => q2 (e2.mpr z)
        have a3 : ¬ w = 3 := fun z => q3 (e3.mpr z)
        omega
      · rw [r2 (e2.mp q2), zb_andn _ (zbs_lt h7) _ (zbs_lt h7)]
        have : zbs (zthr ρ' false) (τ 0 0) &&& (127 ^^^ zbs (fun m => decide (ρ' (21 + m) = 1)) (τ 0 0)) = zbs (fun m => decide (ρ' (21 + m) = 0) && decide (ρ' (14 + m) = 0)) (τ 0 0) := by
          refine zb_ext (zb_al (zbs_lt h7)) (zbs_lt h7) (fun m hm => ?_)
          rw [Nat.testBit_and, Nat.testBit_xor, zbs_bit, zbs_bit, zbs_bit]
          have t127 : (127 : Nat).testBit m = true := by
            have : ∀ m, m < 7 → (127 : Nat).testBit m = true := by decide
            exact this m hm
          rw [t127]
          by_cases hmn : m < τ 0 0
          · have hl := (D'.man hmn).2.2.2.1
            have a1 : ρ' (21 + m) = 0 ∨ ρ' (21 + m) = 1 := by omega
            unfold zthr
            rcases a1 with a1 | a1
            · by_cases a2 : ρ' (14 + m) = 0 <;> simp [hmn, a1, a2]
              omega
            · by_cases a2 : ρ' (14 + m) = 0 <;> simp [hmn, a1, a2]
          · simp [hmn]
        rw [this]
      · rw [r3 (e3.mp q3), zb_m1 _ (zbs_lt h7)]
      · exfalso; have a := e3.mp q3; have c := e2.mp q2; omega
      · rw [r1 (e1.mp q1), g4]
      · rw [r0 (e0.mp q0), g3]
      · obtain ⟨I3, k1, k2, k3, k4, k5⟩ := M_dusk (d := 5) (J := J) h2 (rule := rule) (by omega)
        rw [← hρ'] at k2
        have h3 := h2.sc k5
        have hv2 := h3.M.1.1
        have vl : vp_in (I3 420 18) 2 := by rw [h3.M.1.2]; exact zvin hv2 (by decide)
        have n0 : I3 431 (I3 420 18).toNatClampNeg = nI (τ 0 0) := by rw [h3.M.1.2, zclm (by omega)]; exact h3.M.2.1.1
        have ml : ∀ m, m ≤ τ 0 0 → 2 ≤ w → zE 10 kX12_dusk 52 [some (.ref 420), none, some (.int (nI w)), some (.int (nI (zbs (fun m => decide (ρ' (21 + m) = 0) && decide (ρ' (14 + m) = 0)) m))), some (.int (nI (zbs (zthr ρ' true) m))), some (.int (nI m))] [] Z I3 J (some (.int r), Z, I3, J) := by
          refine zloop _ _ ?_ ?_
          · intro hw2
            refine BX12_dusk_52 (d := 5) _ _ _ _ h3.L ⟨vl, fun _ => ⟨fun q => ?_, fun q => ?_⟩, fun q => absurd (by rw [n0]; exact Int32.le_refl _) q⟩
            · have a2 : ¬ w = 2 := fun z => q (e2.mpr z)
              rw [r3 (by omega)]
            · rw [r2 (e2.mp q)]
          · intro m hm ih hw2
            have ih := ih hw2
            have hl := (D'.man hm).2.2.2.1
            have b14 := BB (14 + m) (by omega)
            have q21 : I3 458 ((21 : Int32) + nI m).toNatClampNeg = nI (ρ' (21 + m)) := by rw [zk_21, zclm (by omega)]; exact k2.at (by omega)
            have q14 : I3 458 ((14 : Int32) + nI m).toNatClampNeg = nI (ρ' (14 + m)) := by rw [zk_14, zclm (by omega)]; exact k2.at (by omega)
            have v21 : vp_in ((21 : Int32) + nI m) 1290 := by rw [zk_21]; exact zvin (by omega) (by decide)
            have v14 : vp_in ((14 : Int32) + nI m) 1290 := by rw [zk_14]; exact zvin (by omega) (by decide)
            have i21 : I3 458 ((21 : Int32) + nI m).toNatClampNeg = 0 ↔ ρ' (21 + m) = 0 := by rw [q21, zn0 (by omega)]
            have i14 : I3 458 ((14 : Int32) + nI m).toNatClampNeg = 0 ↔ ρ' (14 + m) = 0 := by rw [q14, zn0 (by omega)]
            have l14 : I3 458 ((14 : Int32) + nI m).toNatClampNeg ≤ 0 ↔ ¬ 0 < ρ' (14 + m) := by rw [q14, show (0 : Int32) = nI 0 from rfl, zle' (by omega) (by decide)]; omega
            have fT : (ρ' (21 + m) = 0 ∧ ρ' (14 + m) = 0) → nI (zbs (fun m => decide (ρ' (21 + m) = 0) && decide (ρ' (14 + m) = 0)) m) ||| ((1 : Int32) <<< (nI m &&& 31)) = nI (zbs (fun m => decide (ρ' (21 + m) = 0) && decide (ρ' (14 + m) = 0)) (m + 1)) := fun z => zbs_t (P := fun m => decide (ρ' (21 + m) = 0) && decide (ρ' (14 + m) = 0)) (by omega) (by simp [z.1, z.2])
            have fF : ¬ (ρ' (21 + m) = 0 ∧ ρ' (14 + m) = 0) → zbs (fun m => decide (ρ' (21 + m) = 0) && decide (ρ' (14 + m) = 0)) (m + 1) = zbs (fun m => decide (ρ' (21 + m) = 0) && decide (ρ' (14 + m) = 0)) m := fun z => zbs_f (P := fun m => decide (ρ' (21 + m) = 0) && decide (ρ' (14 + m) = 0)) (by simpa using z)
            have sT : 0 < ρ' (14 + m) → nI (zbs (zthr ρ' true) m) ||| ((1 : Int32) <<< (nI m &&& 31)) = nI (zbs (zthr ρ' true) (m + 1)) := fun z => zbs_t (by omega) (by unfold zthr; simpa using z)
            have sF : ¬ 0 < ρ' (14 + m) → zbs (zthr ρ' true) (m + 1) = zbs (zthr ρ' true) m := fun z => zbs_f (by unfold zthr; simpa using z)
            refine BX12_dusk_52 (d := 5) _ _ _ _ h3.L ⟨vl, fun q => ?_, fun _ => ⟨v21, fun q => ⟨v14, fun q2 => ?_, fun q2 y ey => ?_⟩, fun q => ⟨v14, fun q2 => ⟨v14, fun q3 => ?_, fun q3 y ey => ?_⟩, fun q2 y ey => ⟨v14, fun q3 => ?_, fun q3 y2 ey2 => ?_⟩⟩⟩⟩
            · exfalso; rw [n0, zle' (by omega) (by omega)] at q; omega
            · rw [i21] at q; rw [l14] at q2
              rw [fF (fun z => q z.1), sF q2] at ih; rw [zadd1]; exact ih
            · rw [i21] at q; rw [l14] at q2
              rw [fF (fun z => q z.1)] at ih; rw [ey, sT (Classical.byContradiction fun z => q2 z), zadd1]; exact ih
            · rw [i14] at q2; rw [l14] at q3; omega
            · rw [i14] at q2; rw [l14] at q3
              rw [fF (fun z => q2 z.2)] at ih; rw [ey, sT (by omega), zadd1]; exact ih
            · rw [i21] at q; rw [i14] at q2; rw [l14] at q3
              rw [sF q3] at ih; rw [ey, fT ⟨q, q2⟩, zadd1]; exact ih
            · rw [i14] at q2; rw [l14] at q3; omega
        refine ⟨I3, BX12_dusk_0 (d := 5) _ _ h2.L ⟨fun q => absurd hxin (zbi_eq0.mp q), fun _ => ⟨fun _ => ⟨I3, k1, fun q0 => ⟨fun q1 => ml 0 (Nat.zero_le _) ?_, fun q1 => ?_⟩, fun q0 => ?_⟩, fun q => absurd hyin (zbi_eq0.mp q)⟩⟩, k5⟩
        · have a0 : ¬ w = 0 := fun z => q0 (e0.mpr z)
          have a1 : ¬ w = 1 := fun z => q1 (e1.mpr z)
          omega
        · rw [r1 (e1.mp q1), k4]
        · rw [r0 (e0.mp q0), k3]
/-- the best of k RULES from i on -/
def zbd (W G : Nat → Nat) : Nat → Nat → Int32 → Int32 → Int32 → Int32
  | 0, _, x, _, _ => x
  | f + 1, k, x, y, z => if nI (W k) < y ∨ (nI (W k) = y ∧ ¬ nI (G k) < z) then zbd W G f (k + 1) x y z else zbd W G f (k + 1) (nI k) (nI (W k)) (nI (G k))
theorem Q_bestDusk (h : zR0 Z I t u v τ Λ b ρ) : zQ2 kX11_bestDusk kX12_bestDusk [some (.ref 0), none, none, none, none, none, none] [some (.ref 420), none, none, none, none] Z I J := by
  obtain ⟨W, hW⟩ : ∃ W : Nat → Nat, W = fun k => (zev τ k 421 ρ 0 0).2.2 := ⟨_, rfl⟩
  obtain ⟨G, hG⟩ : ∃ G : Nat → Nat, G = fun k => (zev τ k 421 ρ 0 0).2.1 := ⟨_, rfl⟩
  have cl : ∀ k, k ≤ 5 → ∀ (x y z : Int32) (I1 : zI), zR0 Z I1 t u v τ Λ b ρ → ∃ I', zE 10 kX11_bestDusk 9 [some (.ref 0), some (.int x), some (.int y), some (.int z), some (.int (nI k)), none, none] [] Z I1 J (some (.int (zbd W G (5 - k) k x y z)), Z, I', J) ∧ zscr I1 I' := by
    refine zloop _ _ ?_ ?_
    · intro x y z I1 h1
      exact ⟨I1, BX11_bestDusk_9 (d := 4) _ _ _ _ h1.L ⟨fun _ => rfl, fun q => absurd (by decide) q⟩, zscr.rf⟩
    · intro k hk ih x y z I1 h1
      obtain ⟨I2, g1, g2, g3, g4, g5⟩ := C_dusk (d := 4) (J := J) h1 (rule := k) hk
      have e3 : I2 413 0 = nI (G k) := by rw [hG]; exact g3
      have e4 : I2 413 1 = nI (W k) := by rw [hW]; exact g4
      have n5 : ¬ (5 : Int32) ≤ nI k := by rw [show (5 : Int32) = nI 5 from rfl, zle' (by decide) (by omega)]; omega
      have ez : zbd W G (5 - k) k x y z = if nI (W k) < y ∨ (nI (W k) = y ∧ ¬ nI (G k) < z) then zbd W G (5 - (k + 1)) (k + 1) x y z else zbd W G (5 - (k + 1)) (k + 1) (nI k) (nI (W k)) (nI (G k)) := by
        rw [show 5 - k = (5 - (k + 1)) + 1 by omega]; rfl
      rw [ez]
      by_cases c : nI (W k) < y ∨ (nI (W k) = y ∧ ¬ nI (G k) < z)
      · rw [if_pos c]
        obtain ⟨I', k1, k2⟩ := ih x y z I2 (h1.sc g5)
        refine ⟨I', BX11_bestDusk_9 (d := 4) _ _ _ _ h1.L ⟨fun q => absurd q n5, fun _ => ⟨I2, g1, fun q => ⟨fun q2 => by rw [zadd1]; exact k1, fun q2 => ⟨fun q3 => by rw [zadd1]; exact k1, fun q3 => ?_⟩⟩, fun q => ?_⟩⟩, g5.tr k2⟩
        · exfalso
          rw [e4] at q2; rw [e3] at q3
          rcases c with c | c
          · rw [q2] at c; exact Int32.lt_irrefl c
          · exact c.2 (Int32.not_le.mp q3)
        · exfalso
          rw [e4] at q
          rcases c with c | c
          · exact q (Int32.le_of_lt c)
          · exact q (by rw [c.1]; exact Int32.le_refl _)
      · rw [if_neg c]
        obtain ⟨I', k1, k2⟩ := ih (nI k) (nI (W k)) (nI (G k)) I2 (h1.sc g5)
        refine ⟨I', BX11_bestDusk_9 (d := 4) _ _ _ _ h1.L ⟨fun q => absurd q n5, fun _ => ⟨I2, g1, fun q => ⟨fun q2 => ?_, fun q2 => ⟨fun q3 => ?_, fun q3 => by rw [e3, e4, zadd1]; exact k1⟩⟩, fun q => ⟨fun _ => by rw [e3, e4, zadd1]; exact k1, fun q2 => ⟨fun _ => by rw [e3, e4, zadd1]; exact k1, fun _ => by rw [e3, e4, zadd1]; exact k1⟩⟩⟩⟩, g5.tr k2⟩
        · exfalso
          rw [e4] at q q2
          exact c (Or.inl (Int32.lt_of_le_of_ne q q2))
        · exfalso
          rw [e4] at q2; rw [e3] at q3
          exact c (Or.inr ⟨q2, Int32.not_lt.mpr q3⟩)
  have ml : ∀ k, k ≤ 5 → ∀ (x y z : Int32) (I1 : zI), zR0 Z I1 t u v τ Λ b ρ → ∃ I', zE 10 kX12_bestDusk 9 [some (.ref 420), some (.int x), some (.int y), some (.int z), some (.int (nI k))] [] Z I1 J (some (.int (zbd W G (5 - k) k x y z)), Z, I', J) ∧ zscr I1 I' := by
    refine zloop _ _ ?_ ?_
    · intro x y z I1 h1
      exact ⟨I1, BX12_bestDusk_9 (d := 5) _ _ _ _ h1.L ⟨fun _ => rfl, fun q => absurd (by decide) q⟩, zscr.rf⟩
    · intro k hk ih x y z I1 h1
      obtain ⟨I2, g1, g2, g3, g4, g5⟩ := M_dusk (d := 5) (J := J) h1 (rule := k) hk
      have e3 : I2 420 64 = nI (G k) := by rw [hG]; exact g3
      have e4 : I2 420 65 = nI (W k) := by rw [hW]; exact g4
      have n5 : ¬ (5 : Int32) ≤ nI k := by rw [show (5 : Int32) = nI 5 from rfl, zle' (by decide) (by omega)]; omega
      have ez : zbd W G (5 - k) k x y z = if nI (W k) < y ∨ (nI (W k) = y ∧ ¬ nI (G k) < z) then zbd W G (5 - (k + 1)) (k + 1) x y z else zbd W G (5 - (k + 1)) (k + 1) (nI k) (nI (W k)) (nI (G k)) := by
        rw [show 5 - k = (5 - (k + 1)) + 1 by omega]; rfl
      rw [ez]
      by_cases c : nI (W k) < y ∨ (nI (W k) = y ∧ ¬ nI (G k) < z)
      · rw [if_pos c]
        obtain ⟨I', k1, k2⟩ := ih x y z I2 (h1.sc g5)
        refine ⟨I', BX12_bestDusk_9 (d := 5) _ _ _ _ h1.L ⟨fun q => absurd q n5, fun _ => ⟨I2, g1, fun q => by rw [zadd1]; exact k1, fun q => ⟨fun q2 => ?_, fun q2 => ⟨fun q3 => ?_, fun q3 => by rw [zadd1]; exact k1⟩⟩⟩⟩, g5.tr k2⟩
        · exfalso
          rw [e4] at q q2
          rcases c with c | c
          · exact q c
          · exact q2 c.1
        · exfalso
          rw [e4] at q; rw [e3] at q3
          rcases c with c | c
          · exact q c
          · exact c.2 q3
      · rw [if_neg c]
        obtain ⟨I', k1, k2⟩ := ih (nI k) (nI (W k)) (nI (G k)) I2 (h1.sc g5)
        refine ⟨I', BX12_bestDusk_9 (d := 5) _ _ _ _ h1.L ⟨fun q => absurd q n5, fun _ => ⟨I2, g1, fun q => ?_, fun q => ⟨fun q2 => by rw [e3, e4, zadd1]; exact k1, fun q2 => ⟨fun q3 => by rw [e3, e4, zadd1]; exact k1, fun q3 => ?_⟩⟩⟩⟩, g5.tr k2⟩
        · exfalso; rw [e4] at q; exact c (Or.inl q)
        · exfalso; rw [e4] at q2; rw [e3] at q3; exact c (Or.inr ⟨q2, q3⟩)
  obtain ⟨I1, c1, c2⟩ := cl 0 (by decide) 0 (-1) 0 I h
  refine zQ2.of h _ ⟨I1, BX11_bestDusk_0 (d := 4) h.L c1, c2⟩ (fun I2 h2 => ?_)
  obtain ⟨I3, m1, m2⟩ := ml 0 (by decide) 0 (-1) 0 I2 h2
  exact ⟨I3, BX12_bestDusk_0 (d := 5) h2.L m1, m2⟩
end
