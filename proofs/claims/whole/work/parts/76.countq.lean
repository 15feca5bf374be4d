/-! count -/
section
variable {d : Nat} {Z : zZ} {J : zJ} {I I' I1 I2 I4 : zI} {t u v b n nx kt : Nat} {τ : Nat → Nat → Nat} {Λ : Nat → Option zLaw} {ρ ρ' : Nat → Nat} {hs : Nat → Nat → Nat} {sl : Nat → Option (Nat → Nat)} {A : Nat → Nat × Nat × Bool}
theorem M_cnt (h : zR0 Z I t u v τ Λ b ρ) {x : Int32} {off : Nat} (hx : (x = 4 ∧ off = 14) ∨ (¬ x = 4 ∧ off = 21)) : zE d kX12_count 106 [some (.ref 420), some (.int x), some (.int 0), some (.int 0)] [] Z I J (some (.int (nI (zsum (fun m => ρ (off + m)) 0 (τ 0 0)))), Z, I, J) := by
  have h7 := h.n7
  obtain ⟨hv1, hv2⟩ := h.M.1
  have hmen := h.M.2.1.1
  have loop : ∀ m, m ≤ τ 0 0 → ∀ acc, zE d kX12_count 106 [some (.ref 420), some (.int x), some (.int (nI acc)), some (.int (nI m))] [] Z I J (some (.int (nI (acc + zsum (fun m => ρ (off + m)) m (τ 0 0 - m)))), Z, I, J) := by
    refine zloop _ _ ?_ ?_
    · intro acc
      refine BX12_count_106 _ _ _ h.L ⟨by rw [hv2]; exact zvin hv1 (by decide), fun _ => by rw [zsum_end]; rfl, fun q => ?_⟩
      exfalso; rw [hv2, zclm (by omega), hmen] at q; exact q (Int32.le_refl _)
    · intro m hm ih acc
      rw [zsum_lt hm, ← Nat.add_assoc]
      refine BX12_count_106 _ _ _ h.L ⟨by rw [hv2]; exact zvin hv1 (by decide), fun q => ?_, fun _ => ⟨fun q => ?_, fun q => ?_⟩⟩
      · exfalso; rw [hv2, zclm (by omega), hmen, zle' (by omega) (by omega)] at q; omega
      · have e : off = 21 := by
          rcases hx with g | g
          · exact absurd g.1 q
          · exact g.2
        refine ⟨by rw [zk_21]; exact zvin (by omega) (by decide), fun y ey => ?_⟩
        rw [zk_21, zclm (by omega), h.R.at (by omega), zadd, ← e] at ey
        rw [ey, zadd1]; exact ih _
      · have e : off = 14 := by
          rcases hx with g | g
          · exact g.2
          · exact absurd q g.1
        refine ⟨by rw [zk_14]; exact zvin (by omega) (by decide), fun y ey => ?_⟩
        rw [zk_14, zclm (by omega), h.R.at (by omega), zadd, ← e] at ey
        rw [ey, zadd1]; exact ih _
  have := loop 0 (Nat.zero_le _) 0
  rw [Nat.zero_add, Nat.sub_zero] at this
  exact this
theorem C_errs (h : zR0 Z I t u v τ Λ b ρ) : zE (d + 1) kX6_countErrands 0 [some (.ref t), none, none] [] Z I J (some (.int (nI (zsum (fun m => τ 4 m) 0 (τ 0 0)))), Z, I, J) := by
  have h7 := h.n7
  have hmen := h.men
  have loop : ∀ m, m ≤ τ 0 0 → ∀ acc, zE (d + 1) kX6_countErrands 4 [some (.ref t), some (.int (nI acc)), some (.int (nI m))] [] Z I J (some (.int (nI (acc + zsum (fun m => τ 4 m) m (τ 0 0 - m)))), Z, I, J) := by
    refine zloop _ _ ?_ ?_
    · intro acc
      exact BX6_countErrands_4 _ _ (ly_tx h.L) ⟨fun _ => by rw [zsum_end]; rfl, fun q => absurd (by rw [hmen]; exact Int32.le_refl _) q⟩
    · intro m hm ih acc
      rw [zsum_lt hm, ← Nat.add_assoc]
      refine BX6_countErrands_4 _ _ (ly_tx h.L) ⟨fun q => ?_, fun _ y ey => ?_⟩
      · exfalso; rw [hmen, zle' (by omega) (by omega)] at q; omega
      · rw [zatI (by omega) (by decide), (h.T.2.1 m hm).2.2.2.1, zadd] at ey
        rw [ey, zadd1]; exact ih _
  have := loop 0 (Nat.zero_le _) 0
  rw [Nat.zero_add, Nat.sub_zero] at this
  exact BX6_countErrands_0 (ly_tx h.L) this
theorem M_errs (h : zR0 Z I t u v τ Λ b ρ) : zE d kX12_count 163 [some (.ref 420), none, some (.int 0), some (.int 0)] [] Z I J (some (.int (nI (zsum (fun m => τ 4 m) 0 (τ 0 0)))), Z, I, J) := by
  have h7 := h.n7
  obtain ⟨hv1, hv2⟩ := h.M.1
  have hmen := h.M.2.1.1
  have loop : ∀ m, m ≤ τ 0 0 → ∀ acc, zE d kX12_count 163 [some (.ref 420), none, some (.int (nI acc)), some (.int (nI m))] [] Z I J (some (.int (nI (acc + zsum (fun m => τ 4 m) m (τ 0 0 - m)))), Z, I, J) := by
    refine zloop _ _ ?_ ?_
    · intro acc
      refine BX12_count_163 _ _ h.L ⟨by rw [hv2]; exact zvin hv1 (by decide), fun _ => by rw [zsum_end]; rfl, fun q => ?_⟩
      exfalso; rw [hv2, zclm (by omega), hmen] at q; exact q (Int32.le_refl _)
    · intro m hm ih acc
      have ea : ((7 : Int32) * (I 420 18)) + nI m = nI (7 * v + m) := by rw [hv2, show (7 : Int32) = nI 7 from rfl, zmul, zadd]
      rw [zsum_lt hm, ← Nat.add_assoc]
      refine BX12_count_163 _ _ h.L ⟨by rw [hv2]; exact zvin hv1 (by decide), fun q => ?_, fun _ => ⟨by rw [ea]; exact zvin (by omega) (by decide), fun y ey => ?_⟩⟩
      · exfalso; rw [hv2, zclm (by omega), hmen, zle' (by omega) (by omega)] at q; omega
      · rw [ea, zclm (by omega), (h.M.2.2.1 m hm).2.2.2, zadd] at ey
        rw [ey, zadd1]; exact ih _
  have := loop 0 (Nat.zero_le _) 0
  rw [Nat.zero_add, Nat.sub_zero] at this
  exact this
theorem C_held (hL : zLY Z t u) {e0 e1 e2 : Int32} (h0 : I 70 0 = e0) (h1 : I 70 1 = e1) (h2 : I 70 2 = e2) : zE (d + 1) kX3_countHeld 0 [some (.ref 67), none, none] [] Z I J (some (.int (0 + e0 + e1 + e2)), Z, I, J) := by
  have z0 : zat I 70 3 0 = e0 := (zatI (I := I) (a := 70) (n := 3) (k := 0) (by decide) (by decide)).trans h0
  have z1 : zat I 70 3 (0 + 1) = e1 := by rw [show (0 : Int32) + 1 = nI 1 from by decide]; exact (zatI (by decide) (by decide)).trans h1
  have z2 : zat I 70 3 (0 + 1 + 1) = e2 := by rw [show (0 : Int32) + 1 + 1 = nI 2 from by decide]; exact (zatI (by decide) (by decide)).trans h2
  refine BX3_countHeld_0 hL (BX3_countHeld_4 _ _ hL ⟨fun q => absurd q (by decide), fun _ => ?_⟩)
  rw [z0]
  refine BX3_countHeld_4 _ _ hL ⟨fun q => absurd q (by decide), fun _ => ?_⟩
  rw [z1]
  refine BX3_countHeld_4 _ _ hL ⟨fun q => absurd q (by decide), fun _ => ?_⟩
  rw [z2]
  exact BX3_countHeld_4 _ _ hL ⟨fun _ => rfl, fun q => absurd (by decide) q⟩
theorem zheld (h : zFul Z I t u v τ Λ b ρ n nx hs sl kt A) {s : Nat} (hs3 : s < 3) : ∃ e : Int32, I 70 s = e ∧ (I 471 s = 0 → e = 0) ∧ (¬ I 471 s = 0 → e = 1) := by
  have k1 := h.2.2.1.1 s hs3
  have k2 := h.2.2.1.2.1 s hs3
  cases es : sl s with
  | none =>
    rw [es] at k1 k2
    dsimp only at k1 k2
    exact ⟨0, k1, fun _ => rfl, fun q => absurd k2 q⟩
  | some σ =>
    rw [es] at k1 k2
    dsimp only at k1 k2
    exact ⟨1, k1.1, fun q => absurd (k2.1.symm.trans q) (by decide), fun _ => rfl⟩
theorem X_count (h : zFul Z I t u v τ Λ b ρ n nx hs sl kt A) (hb : b + 2000 < 500000000) (x : Int32) : zX kX11_count kX12_count [some (.ref 0), some (.int x)] [some (.ref 420), some (.int x), none, none] Z I J t u v τ Λ b := by
  have h0 := h.1
  have h7 := h0.n7
  obtain ⟨hv1, hv2⟩ := h0.M.1
  have hvi : vp_in (I 420 18) 2 := by rw [hv2]; exact zvin hv1 (by decide)
  have hvc : (I 420 18).toNatClampNeg = v := by rw [hv2]; exact zclm (by omega)
  obtain ⟨m0, m1, m2, -, m4⟩ := h0.M.2.1
  obtain ⟨c0, c1, c2, -, c4⟩ := h0.T.1
  rcases zix x (n := 12) (by decide) with hx | ⟨j, hj, rfl⟩
  · have ho : x.toInt < 0 ∨ 11 < x.toInt := by
      rcases hx with g | g
      · left; rw [Int32.lt_iff_toInt_lt] at g; simpa using g
      · right; rw [Int32.le_iff_toInt_le] at g
        have : (nI 12).toInt = 12 := by decide
        omega
    have hn : ∀ c : Int32, 0 ≤ c.toInt → c.toInt ≤ 11 → ¬ x = c := fun c p q e => by subst e; omega
    exact zX.q h hb ⟨-1, I, I, BX11_count_0 (d := 8) _ h0.L ⟨fun _ => rfl, fun q => absurd q (hn _ (by decide) (by decide)), fun q => absurd q (hn _ (by decide) (by decide)), fun q => absurd q (hn _ (by decide) (by decide)), fun q => absurd q (hn _ (by decide) (by decide)), fun q => absurd q (hn _ (by decide) (by decide)), fun q => absurd q (hn _ (by decide) (by decide)), fun q => absurd q (hn _ (by decide) (by decide)), fun q => absurd q (hn _ (by decide) (by decide)), fun q => absurd q (hn _ (by decide) (by decide)), fun q => absurd q (hn _ (by decide) (by decide)), fun q => absurd q (hn _ (by decide) (by decide)), fun q => absurd q (hn _ (by decide) (by decide))⟩, BX12_count_0 (d := 10) _ h0.L ⟨fun _ => rfl, fun q => absurd q (hn _ (by decide) (by decide)), fun q => absurd q (hn _ (by decide) (by decide)), fun q => absurd q (hn _ (by decide) (by decide)), fun q => absurd q (hn _ (by decide) (by decide)), fun q => absurd q (hn _ (by decide) (by decide)), fun q => absurd q (hn _ (by decide) (by decide)), fun q => absurd q (hn _ (by decide) (by decide)), fun q => absurd q (hn _ (by decide) (by decide)), fun q => absurd q (hn _ (by decide) (by decide)), fun q => absurd q (hn _ (by decide) (by decide)), fun q => absurd q (hn _ (by decide) (by decide)), fun q => absurd q (hn _ (by decide) (by decide))⟩, zscr.rf⟩
  · have ans : ∀ r : Int32, zE 10 kX11_count 0 [some (.ref 0), some (.int (nI j))] [] Z I J (some (.int r), Z, I, J) → zE 10 kX12_count 0 [some (.ref 420), some (.int (nI j)), none, none] [] Z I J (some (.int r), Z, I, J) → zX kX11_count kX12_count [some (.ref 0), some (.int (nI j))] [some (.ref 420), some (.int (nI j)), none, none] Z I J t u v τ Λ b := fun r p q => zX.q h hb ⟨r, I, I, p, q, zscr.rf⟩
    have C : ∀ r : Int32, (j = 0 → r = I t 2) → (j = 1 → r = I t 0) → (j = 2 → r = I t 1) → (j = 3 → r = I 47 0) → (j = 4 → r = nI (zsum (fun m => ρ (14 + m)) 0 (τ 0 0))) → (j = 5 → r = nI (zsum (fun m => ρ (21 + m)) 0 (τ 0 0))) → (j = 6 → r = I t 3) → (j = 7 → r = nI (zsum (fun m => τ 4 m) 0 (τ 0 0))) → (j = 8 → r = I 0 1) → (j = 9 → r = I 67 0) → (j = 10 → r = I 415 0) → (j = 11 → r = 0 + I 70 0 + I 70 1 + I 70 2) → zE 10 kX11_count 0 [some (.ref 0), some (.int (nI j))] [] Z I J (some (.int r), Z, I, J) := by
      intro r k0 k1 k2 k3 k4 k5 k6 k7 k8 k9 k10 k11
      have hj' : ∀ c : Nat, c < 12 → nI j = nI c → j = c := fun c hc q => (zeq (by omega) (by omega)).mp q
      refine BX11_count_0 (d := 8) _ h0.L ⟨fun q => ?_, fun q => by rw [k0 (hj' 0 (by decide) q)], fun q => by rw [k1 (hj' 1 (by decide) q)], fun q => by rw [k2 (hj' 2 (by decide) q)], fun q => by rw [k3 (hj' 3 (by decide) q)], fun q => ⟨_, C_countAll (d := 8) (ly_d47 h0.L) (ly_tx h0.L) h7 h0.men h0.C, by rw [k4 (hj' 4 (by decide) q)]⟩, fun q => ⟨_, C_lostBits (d := 8) (ly_d47 h0.L) (ly_tx h0.L) h0.W h0.men h0.C h0.D, _, S_bitCount (zbs_lt h7), ?_⟩, fun q => by rw [k6 (hj' 6 (by decide) q)], fun q => ⟨_, C_errs (d := 8) h0, by rw [k7 (hj' 7 (by decide) q)]⟩, fun q => by rw [k8 (hj' 8 (by decide) q)], fun q => by rw [k9 (hj' 9 (by decide) q)], fun q => by rw [k10 (hj' 10 (by decide) q)], fun q => ⟨_, C_held (d := 8) h0.L rfl rfl rfl, by rw [k11 (hj' 11 (by decide) q)]⟩⟩
      · exfalso
        rw [nI_toInt (by omega)] at q
        omega
      · rw [k5 (hj' 5 (by decide) q), zcd_zbs h7, zsum_congr (g := fun m => (decide (ρ (21 + m) = 1)).toNat) (fun m _ hm => ?_)]
        have := (h0.D.1 m (by omega)).2.2.2.1
        rcases (show ρ (21 + m) = 0 ∨ ρ (21 + m) = 1 by omega) with e | e <;> rw [e] <;> rfl
    have M : ∀ r : Int32, (j = 0 → r = I 431 v) → (j = 1 → r = I 429 v) → (j = 2 → r = I 430 v) → (j = 3 → r = I 457 28) → (j = 4 → r = nI (zsum (fun m => ρ (14 + m)) 0 (τ 0 0))) → (j = 5 → r = nI (zsum (fun m => ρ (21 + m)) 0 (τ 0 0))) → (j = 6 → r = I 438 v) → (j = 7 → r = nI (zsum (fun m => τ 4 m) 0 (τ 0 0))) → (j = 8 → r = I 420 2) → (j = 9 → r = I 420 58) → (j = 10 → r = I 420 69) → (j = 11 → r = 0 + I 70 0 + I 70 1 + I 70 2) → zE 10 kX12_count 0 [some (.ref 420), some (.int (nI j)), none, none] [] Z I J (some (.int r), Z, I, J) := by
      intro r k0 k1 k2 k3 k4 k5 k6 k7 k8 k9 k10 k11
      have hj' : ∀ c : Nat, c < 12 → nI j = nI c → j = c := fun c hc q => (zeq (by omega) (by omega)).mp q
      obtain ⟨e0, g0, z0, n0⟩ := zheld h (s := 0) (by decide)
      obtain ⟨e1, g1, z1, n1⟩ := zheld h (s := 1) (by decide)
      obtain ⟨e2, g2, z2, n2⟩ := zheld h (s := 2) (by decide)
      refine BX12_count_0 (d := 10) _ h0.L ⟨fun q => ?_, fun q => ⟨hvi, by rw [k0 (hj' 0 (by decide) q), hvc]⟩, fun q => ⟨hvi, by rw [k1 (hj' 1 (by decide) q), hvc]⟩, fun q => ⟨hvi, by rw [k2 (hj' 2 (by decide) q), hvc]⟩, fun q => by rw [k3 (hj' 3 (by decide) q)], fun q => ?_, fun q => ?_, fun q => ⟨hvi, by rw [k6 (hj' 6 (by decide) q), hvc]⟩, fun q => ?_, fun q => by rw [k8 (hj' 8 (by decide) q)], fun q => by rw [k9 (hj' 9 (by decide) q)], fun q => by rw [k10 (hj' 10 (by decide) q)], fun q => ?_⟩
      · exfalso
        rw [nI_toInt (by omega)] at q
        omega
      · rw [k4 (hj' 4 (by decide) q)]; exact M_cnt h0 (Or.inl ⟨q, rfl⟩)
      · rw [k5 (hj' 5 (by decide) q)]; exact M_cnt h0 (Or.inr ⟨by rw [q]; decide, rfl⟩)
      · rw [k7 (hj' 7 (by decide) q)]; exact M_errs h0
      · rw [k11 (hj' 11 (by decide) q), g0, g1, g2]
        exact ⟨fun q0 => ⟨fun q1 => ⟨fun q2 => by rw [z0 q0, z1 q1, z2 q2]; rfl, fun q2 => by rw [z0 q0, z1 q1, n2 q2]; rfl⟩, fun q1 => ⟨fun q2 => by rw [z0 q0, n1 q1, z2 q2]; rfl, fun q2 => by rw [z0 q0, n1 q1, n2 q2]; rfl⟩⟩, fun q0 => ⟨fun q1 => ⟨fun q2 => by rw [n0 q0, z1 q1, z2 q2]; rfl, fun q2 => by rw [n0 q0, z1 q1, n2 q2]; rfl⟩, fun q1 => ⟨fun q2 => by rw [n0 q0, n1 q1, z2 q2]; rfl, fun q2 => by rw [n0 q0, n1 q1, n2 q2]; rfl⟩⟩⟩
    obtain ⟨tp, B, ⟨-, t1, t2⟩, -⟩ := h.2.2.2.2.2.2.1
    have hE0 := h0.E.2.1
    have hR0 : I 457 28 = nI (ρ 28) := h0.R.at (by decide)
    have f9 : I 67 0 = I 420 58 := by rw [h.2.1.1.1.1, h.2.1.2.1.1]
    have f10 : I 415 0 = I 420 69 := by rw [h.2.2.2.1.1.2.1, h.2.2.2.1.1.2.2]
    obtain ⟨r, hr⟩ : ∃ r : Int32, r = (if j = 0 then I t 2 else if j = 1 then I t 0 else if j = 2 then I t 1 else if j = 3 then I 47 0 else if j = 4 then nI (zsum (fun m => ρ (14 + m)) 0 (τ 0 0)) else if j = 5 then nI (zsum (fun m => ρ (21 + m)) 0 (τ 0 0)) else if j = 6 then I t 3 else if j = 7 then nI (zsum (fun m => τ 4 m) 0 (τ 0 0)) else if j = 8 then I 0 1 else if j = 9 then I 67 0 else if j = 10 then I 415 0 else 0 + I 70 0 + I 70 1 + I 70 2) := ⟨_, rfl⟩
    refine ans r (C r ?_ ?_ ?_ ?_ ?_ ?_ ?_ ?_ ?_ ?_ ?_ ?_) (M r ?_ ?_ ?_ ?_ ?_ ?_ ?_ ?_ ?_ ?_ ?_ ?_)
    all_goals intro e
    all_goals rw [hr, e]
    all_goals first
      | rfl
      | (rw [if_pos rfl]; exact c0.trans m0.symm)
      | (rw [if_neg (by decide), if_pos rfl]; exact c1.trans m1.symm)
      | (rw [if_neg (by decide), if_neg (by decide), if_pos rfl]; exact c2.trans m2.symm)
      | (rw [if_neg (by decide), if_neg (by decide), if_neg (by decide), if_pos rfl]; exact hE0.trans hR0.symm)
      | (rw [if_neg (by decide), if_neg (by decide), if_neg (by decide), if_neg (by decide), if_neg (by decide), if_neg (by decide), if_pos rfl]; exact c4.trans m4.symm)
      | (rw [if_neg (by decide), if_neg (by decide), if_neg (by decide), if_neg (by decide), if_neg (by decide), if_neg (by decide), if_neg (by decide), if_neg (by decide), if_pos rfl]; exact t1.trans t2.symm)
      | (rw [if_neg (by decide), if_neg (by decide), if_neg (by decide), if_neg (by decide), if_neg (by decide), if_neg (by decide), if_neg (by decide), if_neg (by decide), if_neg (by decide), if_pos rfl]; exact f9)
      | (rw [if_neg (by decide), if_neg (by decide), if_neg (by decide), if_neg (by decide), if_neg (by decide), if_neg (by decide), if_neg (by decide), if_neg (by decide), if_neg (by decide), if_neg (by decide), if_pos rfl]; exact f10)
end
