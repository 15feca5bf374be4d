/-! orders, orderAt, cuts: the reference; the two sides -/
theorem zrm_ls : ∀ S, S < 128 → ∀ m, m < 7 → S.testBit m = true → S &&& (127 ^^^ 2 ^ m) < S := by decide +kernel
section
variable {d : Nat} {Z : zZ} {J : zJ} {I I' : zI} {t u v b : Nat} {τ : Nat → Nat → Nat} {Λ : Nat → Option zLaw} {ρ : Nat → Nat}
theorem M_fillsOrders (h : zR0 Z I t u v τ Λ b ρ) {W : Nat → Nat} (hW : ∀ m, W m < 128) (hWI : ∀ m, m < τ 0 0 → I 461 m = nI (W m)) : ∃ I', zE d kX12_fillsOrders 0 [some (.ref 420), none, none] [] Z I J (none, Z, I', J) ∧ (∀ S, S < 128 → I' 462 S = nI (zb W (τ 0 0) S)) ∧ ∀ a, a ≠ 462 → I' a = I a := by
  have h7 := h.n7
  have outer : ∀ S, S ≤ 128 → 1 ≤ S → ∀ I1 : zI, (∀ a, a ≠ 462 → I1 a = I a) → (∀ s, s < S → I1 462 s = nI (zb W (τ 0 0) s)) → ∃ I', zE d kX12_fillsOrders 9 [some (.ref 420), some (.int (nI S)), none] [] Z I1 J (none, Z, I', J) ∧ (∀ S, S < 128 → I' 462 S = nI (zb W (τ 0 0) S)) ∧ ∀ a, a ≠ 462 → I' a = I a := by
    refine zloop _ _ ?_ ?_
    · intro _ I1 f1 f2
      exact ⟨I1, BX12_fillsOrders_9 _ h.L ⟨fun _ => rfl, fun q => absurd (by decide) q⟩, f2, f1⟩
    · intro S hS ih hS1 I1 f1 f2
      have inner : ∀ m, m ≤ τ 0 0 → ∀ I2 : zI, (∀ a, a ≠ 462 → I2 a = I a) → (∀ s, s < S → I2 462 s = nI (zb W (τ 0 0) s)) → I2 462 S = nI (zsum (fun m => if zfree W S m then zb W (τ 0 0) (zrm S m) else 0) 0 m) → ∃ I', zE d kX12_fillsOrders 25 [some (.ref 420), some (.int (nI S)), some (.int (nI m))] [] Z I2 J (none, Z, I', J) ∧ (∀ S, S < 128 → I' 462 S = nI (zb W (τ 0 0) S)) ∧ ∀ a, a ≠ 462 → I' a = I a := by
        refine zloop _ _ ?_ ?_
        · intro I2 g1 g2 g3
          have h2 : zR0 Z I2 t u v τ Λ b ρ := h.sc (zscr.of fun a p _ => g1 a (fun e => p (by subst e; decide)))
          have hmv := zmv h2
          obtain ⟨I', k1, k2⟩ := ih (by omega) I2 g1 (fun s hs => by
            by_cases e : s = S
            · subst e; rw [g3, ← zbS h7 hS (by omega)]
            · exact g2 s (by omega))
          exact ⟨I', BX12_fillsOrders_25 _ _ h.L ⟨hmv.1, fun _ => by rw [zadd1]; exact k1, fun q => absurd (by rw [hmv.2]; exact Int32.le_refl _) q⟩, k2⟩
        · intro m hm ih2 I2 g1 g2 g3
          have h2 : zR0 Z I2 t u v τ Λ b ρ := h.sc (zscr.of fun a p _ => g1 a (fun e => p (by subst e; decide)))
          have hmv := zmv h2
          have nn : ¬ I2 431 (I2 420 18).toNatClampNeg ≤ nI m := by rw [hmv.2, zle' (by omega) (by omega)]; omega
          have hb := zb_bit1 (m := m) hS (by omega)
          have ew : (I2 461 (nI m).toNatClampNeg &&& nI S = 0) ↔ W m &&& S = 0 := by
            rw [zclm (by omega), g1 461 (by decide), hWI m hm, zb_and _ (hW m) _ hS, zn0 (Nat.lt_of_lt_of_le (zb_al (hW m)) (by decide))]
          have erm : nI S &&& (((1 : Int32) <<< (nI m &&& 31)) ^^^ (-1)) = nI (zrm S m) := by rw [zb_one m (by omega), zb_sd hS (zb_p m (by omega))]
          by_cases c : zfree W S m
          · have hls := zrm_ls S hS m (by omega) c.1
            obtain ⟨I', k1, k2⟩ := ih2 (zu I2 462 S (nI (zsum (fun m => if zfree W S m then zb W (τ 0 0) (zrm S m) else 0) 0 m + zb W (τ 0 0) (zrm S m)))) (fun a ha => by rw [zu_ne ha]; exact g1 a ha) (fun s hs => by rw [zu_k (by omega)]; exact g2 s hs) (by rw [zu_eq, zsum_last, Nat.zero_add, if_pos c])
            refine ⟨I', BX12_fillsOrders_25 _ _ h.L ⟨hmv.1, fun q => absurd q nn, fun _ => ⟨fun q => absurd (hb.mpr c.1) q, fun _ => ⟨zvin (by omega) (by decide), fun q => absurd (ew.mpr c.2) q, fun _ => ⟨zvin hS (by decide), by rw [erm]; exact zvin (zrm_lt hS) (by decide), zvin hS (by decide), fun I3 e3 => ?_⟩⟩⟩⟩, k2⟩
            rw [erm, zclm (by omega), zclm (Nat.lt_of_lt_of_le (zrm_lt hS) (by decide)), g3, g2 _ hls, zadd] at e3
            rw [e3, zadd1]; exact k1
          · obtain ⟨I', k1, k2⟩ := ih2 I2 g1 g2 (by rw [g3, zsum_last, Nat.zero_add, if_neg c]; rfl)
            refine ⟨I', BX12_fillsOrders_25 _ _ h.L ⟨hmv.1, fun q => absurd q nn, fun _ => ⟨fun q => by rw [zadd1]; exact k1, fun q => ⟨zvin (by omega) (by decide), fun q2 => by rw [zadd1]; exact k1, fun q2 => absurd ⟨hb.mp q, ew.mp q2⟩ c⟩⟩⟩, k2⟩
      obtain ⟨I', k1, k2⟩ := inner 0 (Nat.zero_le _) (zu I1 462 S 0) (fun a ha => by rw [zu_ne ha]; exact f1 a ha) (fun s hs => by rw [zu_k (by omega)]; exact f2 s hs) (by rw [zu_eq]; rfl)
      refine ⟨I', BX12_fillsOrders_9 _ h.L ⟨fun q => ?_, fun _ => ⟨zvin hS (by decide), fun I2 e2 => ?_⟩⟩, k2⟩
      · exfalso; rw [show (128 : Int32) = nI 128 from rfl, zle' (by decide) (by omega)] at q; omega
      · rw [zclm (by omega)] at e2; rw [e2]; exact k1
  obtain ⟨I', k1, k2⟩ := outer 1 (by decide) (by decide) (zu I 462 0 1) (fun a ha => zu_ne ha) (fun s hs => by
    have : s = 0 := by omega
    subst this; rw [zu_eq, zb0]; rfl)
  exact ⟨I', BX12_fillsOrders_0 h.L (fun I1 e1 => by rw [e1]; exact k1), k2⟩
theorem M_bits {S : Nat} (hS : S < 128) : zE d kX12_bits 0 [some (.int (nI S)), none, none] [] Z I J (some (.int (nI (zcd S 7))), Z, I, J) := by
  have loop : ∀ m, m ≤ 7 → ∀ acc, zE d kX12_bits 4 [some (.int (nI S)), some (.int (nI acc)), some (.int (nI m))] [] Z I J (some (.int (nI (acc + zsum (fun m => (S.testBit m).toNat) m (7 - m)))), Z, I, J) := by
    refine zloop _ _ ?_ ?_
    · intro acc
      exact BX12_bits_4 _ _ _ ⟨fun _ => rfl, fun q => absurd (by decide) q⟩
    · intro m hm ih acc
      rw [zsum_lt hm, ← Nat.add_assoc]
      refine BX12_bits_4 _ _ _ ⟨fun q => ?_, fun _ y ey => ?_⟩
      · exfalso; rw [show (7 : Int32) = nI 7 from rfl, zle' (by decide) (by omega)] at q; omega
      · rw [zb_bit S hS m hm, zadd] at ey
        rw [ey, zadd1]; exact ih _
  have := loop 0 (by decide) 0
  rw [Nat.zero_add, Nat.sub_zero] at this
  exact BX12_bits_0 _ this
theorem M_piecesOf (h : zR0 Z I t u v τ Λ b ρ) (hR : zRM I 458 0 ρ) {S : Nat} (hS : S < 128) : zE d kX12_piecesOf 0 [some (.ref 420), some (.int (nI S)), none, none] [] Z I J (some (.int (nI (zpo τ ρ S))), Z, I, J) := by
  have h7 := h.n7
  have hmv := zmv h
  have loop : ∀ m, m ≤ τ 0 0 → ∀ acc, zE d kX12_piecesOf 4 [some (.ref 420), some (.int (nI S)), some (.int (nI acc)), some (.int (nI m))] [] Z I J (some (.int (nI (acc + zsum (fun m => if S.testBit m = true then ρ (14 + m) else 0) m (τ 0 0 - m)))), Z, I, J) := by
    refine zloop _ _ ?_ ?_
    · intro acc
      exact BX12_piecesOf_4 _ _ _ h.L ⟨hmv.1, fun _ => by rw [zsum_end]; rfl, fun q => absurd (by rw [hmv.2]; exact Int32.le_refl _) q⟩
    · intro m hm ih acc
      have hb := zb_bit1 (m := m) hS (by omega)
      rw [zsum_lt hm, ← Nat.add_assoc]
      refine BX12_piecesOf_4 _ _ _ h.L ⟨hmv.1, fun q => ?_, fun _ => ⟨fun q => ?_, fun q => ⟨by rw [zk_14]; exact zvin (by omega) (by decide), fun y ey => ?_⟩⟩⟩
      · exfalso; rw [hmv.2, zle' (by omega) (by omega)] at q; omega
      all_goals rw [hb] at q
      · rw [if_neg q, Nat.add_zero, zadd1]; exact ih acc
      · rw [zk_14, zclm (by omega), hR.at (by omega), zadd] at ey
        rw [if_pos q, ey, zadd1]; exact ih _
  have := loop 0 (Nat.zero_le _) 0
  rw [Nat.zero_add, Nat.sub_zero] at this
  exact BX12_piecesOf_0 _ h.L this
/-- what both sides have looked up -/
theorem C_lk (h : zR0 Z I t u v τ Λ b ρ) : ∃ (I' : zI) (W : Nat → Nat) (O : Nat), W = zWs τ ρ ∧ O = zbs (zthr ρ true) (τ 0 0) ∧ O < 128 ∧ (∀ m, m < 7 → O.testBit m = true → m < τ 0 0) ∧ (∀ m, W m < 128 ∧ W m &&& (127 ^^^ O) = 0) ∧ zE (d + 2) kX7_look 0 [some (.ref 401), some (.ref t), some (.ref 47), none] [] Z I J (none, Z, I', J) ∧ zscr I I' ∧ I' 401 3 = nI O ∧ ∀ m, m < 7 → I' 402 m = nI (W m) := by
  have h7 := h.n7
  obtain ⟨I', g1, g2, g3, g4⟩ := C_look (d := d) (J := J) h
  refine ⟨I', zWs τ ρ, zbs (zthr ρ true) (τ 0 0), rfl, rfl, zbs_lt h7, fun m hm hb => ?_, fun m => ⟨zWs_lt h7 m, zWs_sub h7 h.H m⟩, g1, g2, g3, fun m hm => (g4 m hm).1⟩
  rw [zbs_bit, Bool.and_eq_true] at hb
  simpa using hb.1
theorem M_lk (h : zR0 Z I t u v τ Λ b ρ) : ∃ I1 I2 I3, zE (d + 1) kX12_copies 0 [some (.ref 420), none] [] Z I J (none, Z, I1, J) ∧ zE (d + 1) kX12_fillsWaits 0 [some (.ref 420), none, none, none] [] Z I1 J (some (.int (nI (zbs (zthr ρ true) (τ 0 0)))), Z, I2, J) ∧ zE (d + 1) kX12_fillsOrders 0 [some (.ref 420), none, none] [] Z I2 J (none, Z, I3, J) ∧ zR0 Z I3 t u v τ Λ b ρ ∧ zRM I3 458 0 ρ ∧ zscr I I3 ∧ (∀ S, S < 128 → I3 462 S = nI (zb (zWs τ ρ) (τ 0 0) S)) ∧ ∀ m, m < τ 0 0 → I3 461 m = nI (zWs τ ρ m) := by
  have h7 := h.n7
  obtain ⟨I1, k1, k2, k3, k4, k5⟩ := M_cop (d := d + 1) (J := J) h
  obtain ⟨I2, l1, l2, l3⟩ := M_fillsWaits (d := d) (J := J) k2 k3
  have hs2 : zscr I1 I2 := zscr.of fun a p _ => l3 a (fun e => p (by subst e; decide))
  have h2 := k2.sc hs2
  obtain ⟨I3, o1, o2, o3⟩ := M_fillsOrders (d := d + 1) (J := J) h2 (W := zWs τ ρ) (fun m => zWs_lt h7 m) l2
  have hs3 : zscr I2 I3 := zscr.of fun a p _ => o3 a (fun e => p (by subst e; decide))
  exact ⟨I1, I2, I3, k1, l1, o1, h2.sc hs3, fun k hk => by rw [o3 458 (by decide), l3 458 (by decide)]; exact k3 k hk, (k5.tr hs2).tr hs3, o2, fun m hm => by rw [o3 461 (by decide)]; exact l2 m hm⟩
theorem Q_orders (h : zR0 Z I t u v τ Λ b ρ) : zQ2 kX11_orders kX12_orders [some (.ref 0)] [some (.ref 420), none] Z I J := by
  have h7 := h.n7
  obtain ⟨I1, W, O, eW, eO, hO, hOn, hW, g1, g2, g3, g4⟩ := C_lk (d := 7) (J := J) h
  obtain ⟨I2, k1, k2⟩ := C_countOrders (d := 8) (J := J) h.L h7 hO g3 hOn hW g4
  refine zQ2.of h (nI (zb W (τ 0 0) O)) ⟨I2, BX11_orders_0 (d := 7) h.L ⟨I1, g1, _, I2, k1, rfl⟩, g2.tr (zscr.of fun a p _ => k2 a (fun e => p (by subst e; decide)))⟩ (fun I3 h3 => ?_)
  obtain ⟨I4, I5, I6, l1, l2, l3, l4, l5, l6, l7, l8⟩ := M_lk (d := 8) (J := J) h3
  rw [← eO] at l2
  rw [← eW] at l7
  exact ⟨I6, BX12_orders_0 (d := 8) h3.L ⟨I4, l1, _, I5, l2, I6, l3, zvin hO (by decide), by rw [zclm (by omega), l7 O hO]⟩, l6⟩
theorem zga_out {W : Nat → Nat} {n : Nat} (hn : n ≤ 7) (hW : ∀ m, W m < 128) : ∀ (k S : Nat), S < 128 → (∀ m, m < 7 → S.testBit m = true → m < n) → 0 < zb W n S → zcd S 7 ≤ k → zga W k S = -1 := by
  intro k
  induction k with
  | zero =>
    intro S hS _ _ hc
    simp only [zga]; rw [if_pos (zcd_0 hS (by omega))]
  | succ k ih =>
    intro S hS hSn hb hc
    simp only [zga]
    by_cases h0 : S = 0
    · rw [if_pos h0]
    · rw [if_neg h0]
      obtain ⟨w, e, hw, hf, hp⟩ := zb_pos hn hW hS h0 hSn hb
      rw [e]
      have := zrm_cd (by omega) hf.1
      exact ih (zrm S w) (zrm_lt hS) (fun m hm hbm => by rw [zrm_bit hm, Bool.and_eq_true] at hbm; exact hSn m hm hbm.1) hp (by omega)
theorem M_at_loop (hL : zLY Z t u) {W : Nat → Nat} {n i : Nat} (hn : n ≤ 7) (hi : i < 2147483648) (hW : ∀ m, W m < 128) (hWI : ∀ m, m < n → I 461 m = nI (W m)) (hB : ∀ S, S < 128 → I 462 S = nI (zb W n S)) : ∀ (f j S : Nat), zcd S 7 ≤ f → j ≤ i → S < 128 → (∀ m, m < 7 → S.testBit m = true → m < n) → 0 < zb W n S → zE (d + 2) kX12_orderAt 33 [some (.ref 420), some (.int (nI i)), some (.int (nI S)), some (.int (nI j)), none] [] Z I J (some (.int (zga W (i - j) S)), Z, I, J) := by
  have zero : ∀ (j : Nat), zE (d + 2) kX12_orderAt 33 [some (.ref 420), some (.int (nI i)), some (.int (nI 0)), some (.int (nI j)), none] [] Z I J (some (.int (zga W (i - j) 0)), Z, I, J) := fun j => by
    have : zga W (i - j) 0 = -1 := by cases i - j <;> simp [zga]
    rw [this]
    exact BX12_orderAt_33 _ _ _ hL ⟨fun _ => rfl, fun q => absurd rfl q⟩
  intro f
  induction f with
  | zero =>
    intro j S hf hj hS hSn hb
    have := zcd_0 hS (by omega)
    subst this; exact zero j
  | succ f ih =>
    intro j S hf hj hS hSn hb
    by_cases h0 : S = 0
    · subst h0; exact zero j
    · obtain ⟨w, e, hw, hfr, hp⟩ := zb_pos hn hW hS h0 hSn hb
      obtain ⟨-, -, -, hmin⟩ := zff_some e
      have hcd := zrm_cd (by omega) hfr.1
      have erm : nI S &&& (((1 : Int32) <<< (nI w &&& 31)) ^^^ (-1)) = nI (zrm S w) := by rw [zb_one w (by omega), zb_sd hS (zb_p w (by omega))]
      have bit0 : ∀ m, m < 7 → ((nI S >>> (nI m &&& 31)) &&& 1 = 0 ↔ S.testBit m = false) := fun m hm => zb_bit0 hS hm
      have ew : ∀ m, m < n → ((I 461 (nI m).toNatClampNeg &&& nI S = 0) ↔ W m &&& S = 0) := fun m hm => by
        rw [zclm (by omega), hWI m hm, zb_and _ (hW m) _ hS, zn0 (Nat.lt_of_lt_of_le (zb_al (hW m)) (by decide))]
      have search : ∀ m, m ≤ w → zE (d + 2) kX12_orderAt 40 [some (.ref 420), some (.int (nI i)), some (.int (nI S)), some (.int (nI j)), some (.int (nI m))] [] Z I J (some (.int (zga W (i - j) S)), Z, I, J) := by
        refine zloop _ _ ?_ ?_
        · refine BX12_orderAt_40 _ _ _ _ hL ⟨fun q => ?_, fun _ => ⟨zvin (by omega) (by decide), fun q => absurd ((ew w hw).mpr hfr.2) q, fun _ => ⟨by rw [erm]; exact zvin (zrm_lt hS) (by decide), fun _ => ⟨fun q => ?_, fun q => ?_⟩, fun q => ?_⟩⟩⟩
          · rw [bit0 w (by omega), hfr.1] at q; exact absurd q (by decide)
          · intro y ey
            rw [zeq (by omega) (by omega)] at q
            obtain ⟨k, hk⟩ : ∃ k, i - j = k + 1 := ⟨i - j - 1, by omega⟩
            have ez : zga W (i - j) S = zga W (i - (j + 1)) (zrm S w) := by
              rw [hk, show i - (j + 1) = k by omega]
              simp only [zga]; rw [if_neg h0, e]
            rw [ey, erm, zadd1, ez]
            exact ih (j + 1) (zrm S w) (by omega) (by omega) (zrm_lt hS) (fun m hm hbm => by rw [zrm_bit hm, Bool.and_eq_true] at hbm; exact hSn m hm hbm.1) hp
          · rw [zeq (by omega) (by omega)] at q
            rw [q, Nat.sub_self]
            simp only [zga]; rw [if_neg h0, e]
          · exfalso
            have := zb_le (W := W) (S := zrm S w) hn
            rw [erm, zclm (Nat.lt_of_lt_of_le (zrm_lt hS) (by decide)), hB _ (zrm_lt hS), zn0 (by omega)] at q; omega
        · intro m hm ih2
          have hnf := hmin m (Nat.zero_le _) hm
          refine BX12_orderAt_40 _ _ _ _ hL ⟨fun _ => by rw [zadd1]; exact ih2, fun q => ⟨zvin (by omega) (by decide), fun _ => by rw [zadd1]; exact ih2, fun q2 => ?_⟩⟩
          exfalso
          rw [bit0 m (by omega)] at q
          rw [ew m (by omega)] at q2
          exact hnf ⟨by simpa using q, q2⟩
      refine BX12_orderAt_33 _ _ _ hL ⟨fun q => ?_, fun _ => search 0 (Nat.zero_le _)⟩
      rw [zn0 (by omega)] at q; exact absurd q h0
theorem C_findOrder (hL : zLY Z t u) {W : Nat → Nat} {n O S : Nat} {c : Int32} (hn : n ≤ 7) (hW : ∀ m, W m < 128) (hO : I 401 3 = nI O) (hc : nI O &&& (c ^^^ (-1)) = nI S) (hS : S < 128) (hSn : ∀ m, m < 7 → S.testBit m = true → m < n) (hWI : ∀ m, m < 7 → I 402 m = nI (W m)) :
    ∃ I', zE (d + 2) kX7_findOrder 0 [some (.ref 401), some (.int c), none, none, none] [] Z I J (some (.int (if zb W n S = 0 then 0 else 1)), Z, I', J) ∧ (∀ a, a ≠ 404 → I' a = I a) ∧ (0 < zb W n S → ∀ k, k < zcd S 7 → I' 404 k = zga W k S) := by
  obtain ⟨I', k1, k2, k3, k4⟩ := C_find_loop (d := d) (J := J) hL hn hW 7 0 S I rfl (zcd_le7 S) hS hSn hWI
  refine ⟨I', BX7_findOrder_0 _ hL (fun y ey => ?_), k2, fun hb k hk => ?_⟩
  · rw [hO, hc] at ey; rw [ey]; exact k1
  · have := k4 hb k hk; rwa [Nat.zero_add] at this
theorem Q_orderAt (h : zR0 Z I t u v τ Λ b ρ) (x : Int32) : zQ2 kX11_orderAt kX12_orderAt [some (.ref 0), some (.int x)] [some (.ref 420), some (.int x), none, none, none] Z I J := by
  have h7 := h.n7
  by_cases hx : 0 ≤ x
  · obtain ⟨i, hi, rfl⟩ := znI_ex x (Int32.not_lt.mpr hx)
    obtain ⟨I1, W, O, eW, eO, hO, hOn, hW, g1, g2, g3, g4⟩ := C_lk (d := 7) (J := J) h
    have eO0 : nI O &&& ((0 : Int32) ^^^ (-1)) = nI O := by
      have : ∀ a, a < 128 → nI a &&& ((0 : Int32) ^^^ (-1)) = nI a := by decide +kernel
      exact this O hO
    obtain ⟨I2, hfind, k2, k4⟩ := C_findOrder (d := 7) (J := J) (c := 0) h.L h7 (fun m => (hW m).1) g3 eO0 hO hOn g4
    have hs2 : zscr I I2 := g2.tr (zscr.of fun a p _ => k2 a (fun e => p (by subst e; decide)))
    by_cases hb : zb W (τ 0 0) O = 0
    · rw [if_pos hb] at hfind
      refine zQ2.of h (-2) ⟨I2, BX11_orderAt_0 (d := 7) _ h.L ⟨fun _ => ⟨I1, g1, 0, I2, hfind, fun q => absurd rfl q, fun _ => rfl⟩, fun q => absurd hx q⟩, hs2⟩ (fun I3 h3 => ?_)
      obtain ⟨I4, I5, I6, l1, l2, l3, l4, l5, l6, l7, l8⟩ := M_lk (d := 8) (J := J) h3
      rw [← eO] at l2
      rw [← eW] at l7
      exact ⟨I6, BX12_orderAt_0 (d := 8) _ h3.L ⟨fun _ => ⟨I4, l1, _, I5, l2, I6, l3, zvin hO (by decide), fun q => absurd (by rw [zclm (by omega), l7 O hO, hb]; rfl) q, fun _ => rfl⟩, fun q => absurd hx q⟩, l6⟩
    · rw [if_neg hb] at hfind
      have hcd := zcd_le7 O
      have e401 : I2 401 3 = nI O := by rw [k2 401 (by decide)]; exact g3
      refine zQ2.of h (zga W i O) ⟨I2, BX11_orderAt_0 (d := 7) _ h.L ⟨fun _ => ⟨I1, g1, 1, I2, hfind, fun _ => ⟨nI (zcd O 7), by rw [e401]; exact S_bitCount hO, fun q => ?_, fun q => ?_⟩, fun q => absurd q (by decide)⟩, fun q => absurd hx q⟩, hs2⟩ (fun I3 h3 => ?_)
      · rw [zle' (by omega) hi] at q
        rw [zga_out h7 (fun m => (hW m).1) i O hO hOn (by omega) q]
      · rw [zle' (by omega) hi] at q
        have := k4 (by omega) i (by omega)
        rw [zatI (by omega) (by decide), this]
      · obtain ⟨I4, I5, I6, l1, l2, l3, l4, l5, l6, l7, l8⟩ := M_lk (d := 8) (J := J) h3
        rw [← eO] at l2
        rw [← eW] at l7 l8
        have hble := zb_le (W := W) (S := O) h7
        have := M_at_loop (d := 8) (J := J) h3.L h7 hi (fun m => (hW m).1) l8 l7 7 0 O hcd (Nat.zero_le _) hO hOn (by omega)
        rw [Nat.sub_zero] at this
        refine ⟨I6, BX12_orderAt_0 (d := 8) _ h3.L ⟨fun _ => ⟨I4, l1, _, I5, l2, I6, l3, zvin hO (by decide), fun _ => this, fun q => ?_⟩, fun q => absurd hx q⟩, l6⟩
        exfalso; rw [zclm (by omega), l7 O hO, zn0 (by omega)] at q; exact hb q
  · exact zQ2.of h (-1) ⟨I, BX11_orderAt_0 (d := 7) _ h.L ⟨fun q => absurd q hx, fun _ => rfl⟩, zscr.rf⟩ (fun I1 h => ⟨I1, BX12_orderAt_0 (d := 8) _ h.L ⟨fun q => absurd q hx, fun _ => rfl⟩, zscr.rf⟩)
-- CUTS
abbrev zlss (τ : Nat → Nat → Nat) (ρ : Nat → Nat) (a c : Nat) : Prop := zcd a 7 < zcd c 7 ∨ (zcd a 7 = zcd c 7 ∧ zpo τ ρ a < zpo τ ρ c)
def zct7 (τ : Nat → Nat → Nat) (ρ : Nat → Nat) (W : Nat → Nat) (O : Nat) : Nat → Nat → Nat → Nat
  | 0, _, best => best
  | k + 1, who, best => zct7 τ ρ W O k (who + 1) (if who &&& (127 ^^^ O) = 0 ∧ zb W (τ 0 0) (O &&& (127 ^^^ who)) ≠ 0 ∧ zlss τ ρ who best then who else best)
theorem zct7_lt {W : Nat → Nat} {O : Nat} : ∀ (k who best : Nat), who + k ≤ 128 → best < 128 → zct7 τ ρ W O k who best < 128 := by
  intro k
  induction k with
  | zero => intro who best _ h; exact h
  | succ k ih =>
    intro who best h1 h2
    simp only [zct7]
    refine ih (who + 1) _ (by omega) ?_
    split <;> omega
theorem zsubN {a c : Nat} (ha : a < 1000000) (hc : c < 1000000) : (nI a - nI c < 0 ↔ a < c) ∧ (nI a - nI c = 0 ↔ a = c) := by
  have h := zsubT (a := a) (c := c) (by omega) (by omega)
  constructor
  · rw [Int32.lt_iff_toInt_lt, h]; simp; omega
  · rw [← Int32.toInt_inj, h]; simp; omega
theorem C_isLess {d1 t1 : Nat} (hd : zDy Z d1) (ht : zTx Z t1) (hH : zH τ ρ) (hT : I t1 2 = nI (τ 0 0)) (hC : zCD I d1 τ ρ) {a c : Nat} (ha : a < 128) (hc : c < 128) : zE (d + 2) kX7_isLess 0 [some (.ref t1), some (.ref d1), some (.int (nI a)), some (.int (nI c)), none] [] Z I J (some (.int (zbi (zlss τ ρ a c))), Z, I, J) := by
  have h1 := zcd_le7 a
  have h2 := zcd_le7 c
  have p1 := zpo_le hH a
  have p2 := zpo_le hH c
  have e1 := zsubN (a := zcd a 7) (c := zcd c 7) (by omega) (by omega)
  have e2 := zsubN (a := zpo τ ρ a) (c := zpo τ ρ c) (by omega) (by omega)
  have n1 : 0 ≤ nI (zcd a 7) - nI (zcd c 7) ↔ ¬ zcd a 7 < zcd c 7 := by rw [← e1.1]; exact Int32.not_lt.symm
  have n2 : 0 ≤ nI (zpo τ ρ a) - nI (zpo τ ρ c) ↔ ¬ zpo τ ρ a < zpo τ ρ c := by rw [← e2.1]; exact Int32.not_lt.symm
  refine BX7_isLess_0 _ _ ht hd ⟨_, S_bitCount ha, _, S_bitCount hc, fun q => ⟨fun q2 => ?_, fun q2 => ?_⟩, fun q => ⟨_, C_countLying hd ht hH.1 hT hC ha, _, C_countLying hd ht hH.1 hT hC hc, fun q2 => ?_, fun q2 => ?_⟩⟩
  all_goals rw [e1.2] at q
  all_goals first | rw [n1] at q2 | rw [n2] at q2
  · rw [zbi_f (by rintro (z | z) <;> omega)]
  · rw [zbi_t (Or.inl (Classical.not_not.mp q2))]
  · rw [zbi_f (by rintro (z | z) <;> omega)]
  · rw [zbi_t (Or.inr ⟨q, Classical.not_not.mp q2⟩)]
set_option maxHeartbeats 1000000 in
theorem Q_cuts (h : zR0 Z I t u v τ Λ b ρ) (x : Int32) : zQ2 kX11_cuts kX12_cuts [some (.ref 0), some (.int x), none] [some (.ref 420), some (.int x), none, none, none, none] Z I J := by
  have h7 := h.n7
  have hx3 : (¬ (0 ≤ x ∧ x ≤ 2)) ∨ x = 0 ∨ x = 1 ∨ x = 2 := by
    by_cases hx : 0 ≤ x ∧ x ≤ 2
    · right
      obtain ⟨j, hj, rfl⟩ := znI_ex x (Int32.not_lt.mpr hx.1)
      have := hx.2
      rw [show (2 : Int32) = nI 2 from rfl, zle' hj (by decide)] at this
      obtain rfl | rfl | rfl : j = 0 ∨ j = 1 ∨ j = 2 := by omega
      · exact Or.inl rfl
      · exact Or.inr (Or.inl rfl)
      · exact Or.inr (Or.inr rfl)
    · exact Or.inl hx
  rcases hx3 with hx | hx
  · exact zQ2.of h (-1) ⟨I, BX11_cuts_0 (d := 6) _ h.L ⟨fun _ => rfl, fun q => ⟨fun q2 => absurd ⟨Int32.not_lt.mp q, q2⟩ hx, fun _ => rfl⟩⟩, zscr.rf⟩ (fun I1 h => ⟨I1, BX12_cuts_0 (d := 8) _ h.L ⟨fun q => absurd (zbi_ne0.mp q) hx, fun _ => rfl⟩, zscr.rf⟩)
  · have hxin : 0 ≤ x ∧ x ≤ 2 := by rcases hx with rfl | rfl | rfl <;> decide
    obtain ⟨I1, W, O, eW, eO, hO, hOn, hW, g1, g2, g3, g4⟩ := C_lk (d := 7) (J := J) h
    have hsub : ∀ S, S < 128 → (∀ m, m < 7 → (O &&& (127 ^^^ S)).testBit m = true → m < τ 0 0) := fun S _ m hm hb => by
      rw [zb_dt hm, Bool.and_eq_true] at hb; exact hOn m hm hb.1
    obtain ⟨B, hB⟩ : ∃ B, B = zct7 τ ρ W O 128 0 O := ⟨_, rfl⟩
    have hB128 : B < 128 := by rw [hB]; exact zct7_lt 128 0 O (Nat.le_refl _) hO
    have cl : ∀ who, who ≤ 128 → ∀ (best : Nat) (I2 : zI), best < 128 → (∀ a, a ≠ 404 → I2 a = I1 a) → zct7 τ ρ W O (128 - who) who best = B → ∃ I', zE 9 kX7_fewestCuts 8 [some (.ref 401), some (.ref t), some (.ref 47), some (.int (nI best)), some (.int (nI who))] [] Z I2 J (some (.int (nI B)), Z, I', J) ∧ ∀ a, a ≠ 404 → I' a = I1 a := by
      refine zloop _ _ ?_ ?_
      · intro best I2 _ f1 f2
        have f2 : best = B := f2
        exact ⟨I2, BX7_fewestCuts_8 (d := 6) _ _ h.L (ly_tx h.L) (ly_d47 h.L) ⟨fun _ => by rw [f2], fun q => absurd (by decide) q⟩, f1⟩
      · intro who hw ih best I2 hb f1 f2
        rw [show 128 - who = (128 - (who + 1)) + 1 by omega] at f2
        simp only [zct7] at f2
        have n128 : ¬ (128 : Int32) ≤ nI who := by rw [show (128 : Int32) = nI 128 from rfl, zle' (by decide) (by omega)]; omega
        have e401 : I2 401 3 = nI O := by rw [f1 401 (by decide)]; exact g3
        have es : (nI who &&& (I2 401 3 ^^^ (-1)) = 0) ↔ who &&& (127 ^^^ O) = 0 := by
          rw [e401, zb_sd hw hO, zn0 (Nat.lt_of_lt_of_le (zb_al hw) (by decide))]
        by_cases c1 : who &&& (127 ^^^ O) = 0
        · obtain ⟨I3, hfind, k2, -⟩ := C_findOrder (d := 6) (J := J) (c := nI who) h.L h7 (fun m => (hW m).1) e401 (zb_sd hO hw) (zb_al hO) (hsub who hw) (fun m hm => by rw [f1 402 (by decide)]; exact g4 m hm)
          have f3 : ∀ a, a ≠ 404 → I3 a = I1 a := fun a ha => (k2 a ha).trans (f1 a ha)
          have h3 : zR0 Z I3 t u v τ Λ b ρ := (h.sc g2).sc (zscr.of fun a p _ => f3 a (fun e => p (by subst e; decide)))
          have hless := C_isLess (d := 6) (J := J) (ly_d47 h.L) (ly_tx h.L) h.H h3.men h3.C hw hb
          by_cases c2 : zb W (τ 0 0) (O &&& (127 ^^^ who)) = 0
          · rw [if_pos c2] at hfind
            rw [if_neg (fun z => z.2.1 c2)] at f2
            obtain ⟨I', j1, j2⟩ := ih best I3 hb f3 f2
            exact ⟨I', BX7_fewestCuts_8 (d := 6) _ _ h.L (ly_tx h.L) (ly_d47 h.L) ⟨fun q => absurd q n128, fun _ => ⟨fun q => absurd (es.mpr c1) q, fun _ => ⟨0, I3, hfind, fun _ => by rw [zadd1]; exact j1, fun q => absurd rfl q⟩⟩⟩, j2⟩
          · rw [if_neg c2] at hfind
            by_cases c3 : zlss τ ρ who best
            · rw [if_pos ⟨c1, c2, c3⟩] at f2
              rw [zbi_t c3] at hless
              obtain ⟨I', j1, j2⟩ := ih who I3 hw f3 f2
              exact ⟨I', BX7_fewestCuts_8 (d := 6) _ _ h.L (ly_tx h.L) (ly_d47 h.L) ⟨fun q => absurd q n128, fun _ => ⟨fun q => absurd (es.mpr c1) q, fun _ => ⟨1, I3, hfind, fun q => absurd q (by decide), fun _ => ⟨1, hless, fun q => absurd q (by decide), fun _ => by rw [zadd1]; exact j1⟩⟩⟩⟩, j2⟩
            · rw [if_neg (fun z => c3 z.2.2)] at f2
              rw [zbi_f c3] at hless
              obtain ⟨I', j1, j2⟩ := ih best I3 hb f3 f2
              exact ⟨I', BX7_fewestCuts_8 (d := 6) _ _ h.L (ly_tx h.L) (ly_d47 h.L) ⟨fun q => absurd q n128, fun _ => ⟨fun q => absurd (es.mpr c1) q, fun _ => ⟨1, I3, hfind, fun q => absurd q (by decide), fun _ => ⟨0, hless, fun _ => by rw [zadd1]; exact j1, fun q => absurd rfl q⟩⟩⟩⟩, j2⟩
        · rw [if_neg (fun z => c1 z.1)] at f2
          obtain ⟨I', j1, j2⟩ := ih best I2 hb f1 f2
          exact ⟨I', BX7_fewestCuts_8 (d := 6) _ _ h.L (ly_tx h.L) (ly_d47 h.L) ⟨fun q => absurd q n128, fun _ => ⟨fun _ => by rw [zadd1]; exact j1, fun q => absurd (es.mp q) c1⟩⟩, j2⟩
    obtain ⟨I3, k1, k2⟩ := cl 0 (by decide) O I1 hO (fun _ _ => rfl) hB.symm
    have hs3 : zscr I I3 := g2.tr (zscr.of fun a p _ => k2 a (fun e => p (by subst e; decide)))
    have h3 := h.sc hs3
    obtain ⟨r, r0, r1, r2⟩ : ∃ r : Int32, (x = 0 → r = nI (zcd B 7)) ∧ (x = 1 → r = nI (zpo τ ρ B)) ∧ (x = 2 → r = nI B) := by
      rcases hx with rfl | rfl | rfl
      · exact ⟨_, fun _ => rfl, fun e => absurd e (by decide), fun e => absurd e (by decide)⟩
      · exact ⟨_, fun e => absurd e (by decide), fun _ => rfl, fun e => absurd e (by decide)⟩
      · exact ⟨_, fun e => absurd e (by decide), fun e => absurd e (by decide), fun _ => rfl⟩
    refine zQ2.of h r ⟨I3, BX11_cuts_0 (d := 6) _ h.L ⟨fun q => absurd hxin.1 (Int32.not_le.mpr q), fun _ => ⟨fun _ => ⟨I1, g1, _, I3, BX7_fewestCuts_0 h.L (ly_tx h.L) (ly_d47 h.L) (by rw [g3]; exact k1), fun q2 => ⟨fun q0 => ⟨_, C_countLying (ly_d47 h.L) (ly_tx h.L) h7 h3.men h3.C hB128, ?_⟩, fun q0 => ⟨_, S_bitCount hB128, by rw [r0 q0]⟩⟩, fun q2 => by rw [r2 q2]⟩, fun q => absurd hxin.2 q⟩⟩, hs3⟩ (fun I4 h4 => ?_)
    · rw [r1 ((hx.resolve_left q0).resolve_right q2)]
    · obtain ⟨I5, I6, I7, l1, l2, l3, l4, l5, l6, l7, l8⟩ := M_lk (d := 8) (J := J) h4
      rw [← eO] at l2
      rw [← eW] at l7 l8
      have ml : ∀ who, who ≤ 128 → ∀ (best : Nat), best < 128 → zct7 τ ρ W O (128 - who) who best = B → zE 10 kX12_cuts 29 [some (.ref 420), some (.int x), some (.int (nI O)), some (.int (nI best)), some (.int (nI who)), none] [] Z I7 J (some (.int r), Z, I7, J) := by
        refine zloop _ _ ?_ ?_
        · intro best hb f2
          have f2 : best = B := f2
          subst f2
          refine BX12_cuts_29 (d := 8) _ _ _ _ l4.L ⟨fun _ => ⟨fun q0 => ⟨fun q1 => ?_, fun q1 => ⟨_, M_piecesOf l4 l5 hb, by rw [r1 q1]⟩⟩, fun q0 => ⟨_, M_bits hb, by rw [r0 q0]⟩⟩, fun q => absurd (by decide) q⟩
          rw [r2 ((hx.resolve_left q0).resolve_left q1)]
        · intro who hw ih best hb f2
          rw [show 128 - who = (128 - (who + 1)) + 1 by omega] at f2
          simp only [zct7] at f2
          have n128 : ¬ (128 : Int32) ≤ nI who := by rw [show (128 : Int32) = nI 128 from rfl, zle' (by decide) (by omega)]; omega
          have es : (nI who &&& (nI O ^^^ (-1)) = 0) ↔ who &&& (127 ^^^ O) = 0 := by
            rw [zb_sd hw hO, zn0 (Nat.lt_of_lt_of_le (zb_al hw) (by decide))]
          have eo : nI O &&& (nI who ^^^ (-1)) = nI (O &&& (127 ^^^ who)) := zb_sd hO hw
          have hbl := zb_le (W := W) (S := O &&& (127 ^^^ who)) h7
          have h1 := zcd_le7 who
          have h2 := zcd_le7 best
          have p1 := zpo_le h.H who
          have p2 := zpo_le h.H best
          have e1 := zsubN (a := zcd who 7) (c := zcd best 7) (by omega) (by omega)
          have eb : (I7 462 (nI O &&& (nI who ^^^ (-1))).toNatClampNeg = 0) ↔ zb W (τ 0 0) (O &&& (127 ^^^ who)) = 0 := by
            rw [eo, zclm (Nat.lt_of_lt_of_le (zb_al hO) (by decide)), l7 _ (zb_al hO), zn0 (by omega)]
          have skip : ¬ (who &&& (127 ^^^ O) = 0 ∧ zb W (τ 0 0) (O &&& (127 ^^^ who)) ≠ 0 ∧ zlss τ ρ who best) → zE 10 kX12_cuts 29 [some (.ref 420), some (.int x), some (.int (nI O)), some (.int (nI best)), some (.int (nI who + 1)), none] [] Z I7 J (some (.int r), Z, I7, J) := fun c => by
            rw [if_neg c] at f2; rw [zadd1]; exact ih best hb f2
          have take : who &&& (127 ^^^ O) = 0 ∧ zb W (τ 0 0) (O &&& (127 ^^^ who)) ≠ 0 ∧ zlss τ ρ who best → zE 10 kX12_cuts 29 [some (.ref 420), some (.int x), some (.int (nI O)), some (.int (nI who)), some (.int (nI who + 1)), none] [] Z I7 J (some (.int r), Z, I7, J) := fun c => by
            rw [if_pos c] at f2; rw [zadd1]; exact ih who hw f2
          refine BX12_cuts_29 (d := 8) _ _ _ _ l4.L ⟨fun q => absurd q n128, fun _ => ⟨fun q => skip (fun z => q (es.mpr z.1)), fun q => ⟨by rw [eo]; exact zvin (zb_al hO) (by decide), fun q2 => ⟨_, M_bits hw, _, M_bits hb, fun q3 => take ⟨es.mp q, fun z => q2 (eb.mpr z), Or.inl (e1.1.mp q3)⟩, fun q3 => ⟨fun q4 => skip ?_, fun q4 => ⟨_, M_piecesOf l4 l5 hw, _, M_piecesOf l4 l5 hb, fun q5 => skip ?_, fun q5 => take ⟨es.mp q, fun z => q2 (eb.mpr z), Or.inr ⟨e1.2.mp q4, ?_⟩⟩⟩⟩⟩, fun q2 => skip (fun z => z.2.1 (eb.mp q2))⟩⟩⟩
          · rintro ⟨-, -, z | z⟩
            · exact q3 (e1.1.mpr z)
            · exact q4 (e1.2.mpr z.1)
          · rw [zle' (by omega) (by omega)] at q5
            rintro ⟨-, -, z | z⟩
            · exact q3 (e1.1.mpr z)
            · omega
          · rw [zle' (by omega) (by omega)] at q5; omega
      exact ⟨I7, BX12_cuts_0 (d := 8) _ h4.L ⟨fun _ => ⟨I5, l1, _, I6, l2, I7, l3, ml 0 (by decide) O hO hB.symm⟩, fun q => absurd hxin (zbi_eq0.mp q)⟩, l6⟩
end
