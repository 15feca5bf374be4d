/-! undo, hold, restore -/
section
variable {d : Nat} {Z : zZ} {J : zJ} {I I' I1 I2 I4 : zI} {t u v b n nx kt : Nat} {τ : Nat → Nat → Nat} {Λ : Nat → Option zLaw} {ρ ρ' : Nat → Nat} {hs : Nat → Nat → Nat} {sl sl' : Nat → Option (Nat → Nat)} {A : Nat → Nat × Nat × Bool}
theorem X_undo (h : zFul Z I t u v τ Λ b ρ n nx hs sl kt A) (hb : b + 2000 < 500000000) : zX kX11_undo kX12_undo [some (.ref 0)] [some (.ref 420), none] Z I J t u v τ Λ b := by
  have h0 := h.1
  obtain ⟨⟨⟨q1, q2⟩, hc2⟩, ⟨hm1, hm2⟩, ⟨hn, hnx⟩, hp2⟩ := h.2.1
  rcases Nat.eq_zero_or_pos n with hz | hpos
  · rw [hz] at q1 hm1
    exact zX.q h hb ⟨0, I, I, BX11_undo_0 (d := 6) h0.L ⟨0, I, C_takeBack0 (d := 8) h0.L hnx q2 q1, rfl, rfl⟩, BX12_undo_0 (d := 10) h0.L ⟨fun q => absurd hm1 q, fun _ => rfl⟩, zscr.rf⟩
  · obtain ⟨k, hk⟩ : ∃ k, n = k + 1 := ⟨n - 1, by omega⟩
    rw [hk] at q1 hm1 hn
    have hpn := zprv_lt hnx
    obtain ⟨hkB, hkD⟩ := hp2 k (by omega)
    have hl : zprv nx = (nx + 29) % 30 := by unfold zprv; split <;> omega
    have hCk : zCE I (71 + 10 * zprv nx) τ (hs k) := by
      have := hc2 k (by omega)
      rwa [show (nx + 30 - n + k) % 30 = zprv nx by rw [hl, hk]; omega] at this
    obtain ⟨I1, c1, c2, c3⟩ := C_copyE (d := 6) (J := J) (ly_d47 h0.L) (ly_kept h0.L hpn).1 (Or.inl (by omega)) h0.W hCk hkD
    have e67 : I1 67 = I 67 := c3 67 (by omega)
    have r := C_takeBack (d := 8) (J := J) (I := I) (I1 := I1) h0.L hnx hn q2 q1 (by rw [e67]; exact q1) (ly_d47 h0.L) c1
    obtain ⟨I2, e2⟩ : ∃ I2 : zI, I2 = zu (zu I1 67 4 (nI (zprv nx))) 67 0 (nI k) := ⟨_, rfl⟩
    rw [← e2] at r
    have fr : ∀ a, ¬ (47 ≤ a ∧ a ≤ 56) → a ≠ 67 → I2 a = I a := fun a p1 p2 => by rw [e2, zu_ne p2, zu_ne p2, c3 a (by omega)]
    have hE2 : zCE I2 47 τ (hs k) := c2.same (fun a p1 p2 => by rw [e2, zu_ne (by omega), zu_ne (by omega)])
    have hH2 : zHc I2 τ k (zprv nx) hs := by
      refine ⟨⟨by rw [e2, zu_eq], by rw [e2, zu_k (by decide), zu_eq]⟩, fun i hi => ?_⟩
      have := hc2 i (by omega)
      rw [show (nx + 30 - n + i) % 30 = (zprv nx + 30 - k + i) % 30 by rw [hl, hk]; omega] at this
      exact this.same (fun a p1 p2 => fr a (by omega) (by omega))
    have f58 : I2 420 58 = nI (k + 1) := by rw [fr 420 (by decide) (by decide)]; exact hm1
    obtain ⟨I3, e3⟩ : ∃ I3 : zI, I3 = zu I2 420 58 (nI k) := ⟨_, rfl⟩
    have g58 : I3 420 58 = nI k := by rw [e3, zu_eq]
    have e460 : I3 460 = I 460 := by rw [e3, zu_ne (by decide), fr 460 (by decide) (by decide)]
    obtain ⟨f, hf⟩ : ∃ f : Nat → Int32, f = fun j => I3 460 (1290 * k + j) := ⟨_, rfl⟩
    have loop : ∀ i, i ≤ 1290 → zE 10 kX12_undo 21 [some (.ref 420), some (.int (nI i))] [] Z (zrw I3 457 0 f i) J (some (.int 1), Z, zrw I3 457 0 f 1290, J) := by
      refine zloop _ _ ?_ ?_
      · exact BX12_undo_21 _ h0.L ⟨fun _ => rfl, fun q => absurd (by decide) q⟩
      · intro i hi ih
        have ea : ((1290 : Int32) * (zrw I3 457 0 f i) 420 58) + nI i = nI (1290 * k + i) := by rw [zrw_ne (by decide), g58, show (1290 : Int32) = nI 1290 from rfl, zmul, zadd]
        refine BX12_undo_21 _ h0.L ⟨fun q => ?_, fun _ => ⟨by rw [ea]; exact zvin (by omega) (by decide), zvin hi (by decide), fun I4 e4 => ?_⟩⟩
        · exfalso; rw [show (1290 : Int32) = nI 1290 from rfl, zle' (by decide) (by omega)] at q; omega
        · rw [ea, zclm (by omega), zclm (by omega), zrw_ne (by decide)] at e4
          have es := zrw_s (I := I3) (a := 457) (off := 0) (n := i) (f := f) (v := I3 460 (1290 * k + i)) (by rw [hf])
          rw [Nat.zero_add] at es
          rw [e4, es, zadd1]; exact ih
    have st := loop 0 (by decide)
    rw [zrw_0] at st
    refine ⟨1, I2, zrw I3 457 0 f 1290, BX11_undo_0 (d := 6) h0.L ⟨1, I2, r, rfl, rfl⟩, BX12_undo_0 (d := 10) h0.L ⟨fun _ I4 e4 => ?_, fun q => ?_⟩, hs k, k, zprv nx, hs, sl, kt, A, ?_⟩
    · rw [f58, zsub1, ← e3] at e4
      rw [e4]; exact st
    · exfalso; rw [f58] at q; exact absurd q (nI_ne0 (by omega) (by omega))
    · refine h.move (b' := b + 2000) (by omega) hb hE2 hH2 (fun a p1 p2 _ _ _ => fr a p1 p2) (fun j hj => ?_) ⟨by rw [zrw_ne (by decide)]; exact g58, fun i hi j hj => ?_⟩ (fun a p1 p2 => by rw [zrw_ne (by omega), e3, zu_ne p1]) (fun j _ p2 _ _ => by rw [zrw_ne (by decide), e3, zu_k p2]) (h.2.2.2.2.2.1.same (by rw [zrw_ne (by decide), e3, zu_ne (by decide), fr 458 (by decide) (by decide)])) (zHp.mono (b := b) ⟨⟨by omega, hpn⟩, fun i hi => hp2 i (by omega)⟩ (by omega)) hkD (hkB.mono (by omega))
      · rw [Nat.zero_add, zrw_at0 hj, hf]
        dsimp only
        rw [e460]; exact hm2 k (by omega) j hj
      · rw [zrw_ne (by decide), e460]; exact hm2 i (by omega) j hj
theorem zFul.slot (h : zFul Z I t u v τ Λ b ρ n nx hs sl kt A) (row : ∀ a, a ≠ 70 → ¬ (371 ≤ a ∧ a ≤ 400) → a ≠ 471 → a ≠ 472 → I' a = I a) (s1 : zSc I' τ sl') (s2 : zSm I' sl') (s3 : zSp τ b sl') : zFul Z I' t u v τ Λ b ρ n nx hs sl' kt A := by
  obtain ⟨a1, ⟨a2, a3, a4⟩, -, a8, a9, a10, a11, a12⟩ := h
  have ht := a1.t3
  have r : ∀ a, (a < 70 ∨ 71 ≤ a ∧ a ≤ 370 ∨ 401 ≤ a ∧ a ≤ 470 ∨ 472 < a) → I' a = I a := fun a q => row a (by omega) (by omega) (by omega) (by omega)
  refine ⟨⟨a1.1, a1.W, a1.M.same (by rw [r 420 (by omega)]) (fun a p1 p2 => r a (by omega)), a1.T.same (fun a p1 p2 _ _ => r a (by omega)), a1.S.same (r _ (by omega)) (r _ (by omega)), fun k hk => by rw [r 457 (by omega)]; exact a1.R k hk, a1.bd, a1.D, a1.E.same (fun a p1 p2 => r a (by omega))⟩, ⟨a2.same a4.1.2 (r 67 (by omega)) (fun a p1 p2 => r a (by omega)), a3.same (by rw [r 420 (by omega)]) (r 460 (by omega)), a4⟩, ⟨s1, s2, s3⟩, a8.same (fun a p1 p2 => r a (by omega)) (by rw [r 420 (by omega)]) (fun a p1 p2 => r a (by omega)), a9.same (r 432 (by omega)) (r 433 (by omega)), a10.same (r 458 (by omega)), a11.same (r 0 (by omega)) (r 1 (by omega)) (r 421 (by omega)) (by rw [r 420 (by omega)]), ?_, a12.2.1.same (fun a p q => r a (by omega)), a12.2.2.same (r 1000006 (by omega))⟩
  rw [r 0 (by omega), r 420 (by omega)]; exact a12.1
theorem zn02 {x : Int32} (hx : x < 0 ∨ nI 3 ≤ x) : ¬ (0 ≤ x ∧ x ≤ 2) := by
  rintro ⟨a1, a2⟩
  rcases hx with q | q
  · exact absurd q (Int32.not_lt.mpr a1)
  · exact absurd (Int32.le_trans q a2) (by decide)
theorem zi02 {s : Nat} (hs : s < 3) : 0 ≤ nI s ∧ nI s ≤ 2 := ⟨znn (by omega), by rw [show (2 : Int32) = nI 2 from rfl, zle' (by omega) (by decide)]; omega⟩
theorem X_hold (h : zFul Z I t u v τ Λ b ρ n nx hs sl kt A) (hb : b + 2000 < 500000000) (x : Int32) : zX kX11_hold kX12_hold [some (.ref 0), some (.int x)] [some (.ref 420), some (.int x), none] Z I J t u v τ Λ b := by
  have h0 := h.1
  rcases zix x (n := 3) (by decide) with hx | ⟨s, hs3, rfl⟩
  · exact zX.q h hb ⟨0, I, I, BX11_hold_0 (d := 6) _ h0.L ⟨0, I, C_keep0 (d := 8) h0.L hx, rfl, rfl⟩, BX12_hold_0 (d := 9) _ h0.L ⟨fun q => absurd (zbi_eq0.mpr (zn02 hx)) q, fun _ => rfl⟩, zscr.rf⟩
  · obtain ⟨I1, c1, c2, c3⟩ := C_copyE (d := 6) (J := J) (ly_slot h0.L hs3).1 (ly_d47 h0.L) (Or.inr (by omega)) h0.W h0.E h0.D
    have r := C_keep (d := 8) (J := J) (I := I) (I1 := I1) h0.L hs3 c1
    obtain ⟨I2, e2⟩ : ∃ I2 : zI, I2 = zu I1 70 s 1 := ⟨_, rfl⟩
    rw [← e2] at r
    have fr : ∀ a, ¬ (371 + 10 * s ≤ a ∧ a ≤ 371 + 10 * s + 9) → a ≠ 70 → I2 a = I a := fun a p1 p2 => by rw [e2, zu_ne p2, c3 a p1]
    have e70 : I1 70 = I 70 := c3 70 (by omega)
    obtain ⟨I3, e3⟩ : ∃ I3 : zI, I3 = zu I2 471 s 1 := ⟨_, rfl⟩
    have loop : ∀ i, i ≤ 1290 → zE 10 kX12_hold 20 [some (.ref 420), some (.int (nI s)), some (.int (nI i))] [] Z (zrw I3 472 (1290 * s) (I3 457) i) J (some (.int 1), Z, zrw I3 472 (1290 * s) (I3 457) 1290, J) := by
      refine zloop _ _ ?_ ?_
      · exact BX12_hold_20 (d := 9) _ _ h0.L ⟨fun _ => rfl, fun q => absurd (by decide) q⟩
      · intro i hi ih
        have ea : ((1290 : Int32) * nI s) + nI i = nI (1290 * s + i) := by rw [show (1290 : Int32) = nI 1290 from rfl, zmul, zadd]
        refine BX12_hold_20 (d := 9) _ _ h0.L ⟨fun q => ?_, fun _ => ⟨zvin hi (by decide), by rw [ea]; exact zvin (by omega) (by decide), fun I4 e4 => ?_⟩⟩
        · exfalso; rw [show (1290 : Int32) = nI 1290 from rfl, zle' (by decide) (by omega)] at q; omega
        · rw [ea, zclm (by omega), zclm (by omega), zrw_ne (a := 472) (b := 457) (by decide), zrw_s rfl] at e4
          rw [e4, zadd1]; exact ih
    have st := loop 0 (by decide)
    rw [zrw_0] at st
    obtain ⟨I5, e5⟩ : ∃ I5 : zI, I5 = zrw I3 472 (1290 * s) (I3 457) 1290 := ⟨_, rfl⟩
    rw [← e5] at st
    have g1 : ∀ a, a ≠ 471 → a ≠ 472 → I5 a = I2 a := fun a p1 p2 => by rw [e5, zrw_ne p2, e3, zu_ne p1]
    have g2 : I5 471 = I3 471 := by rw [e5, zrw_ne (by decide)]
    have g3 : ∀ k, ¬ (1290 * s ≤ k ∧ k < 1290 * s + 1290) → I5 472 k = I 472 k := fun k hk => by rw [e5, zrw_out (by omega), e3, zu_ne (by decide), fr 472 (by omega) (by decide)]
    obtain ⟨sl', hsl⟩ : ∃ sl' : Nat → Option (Nat → Nat), sl' = fun q => if q = s then some ρ else sl q := ⟨_, rfl⟩
    have hsS : sl' s = some ρ := by rw [hsl]; exact if_pos rfl
    have hsN : ∀ q, q ≠ s → sl' q = sl q := fun q hq => by rw [hsl]; exact if_neg hq
    refine ⟨1, I2, I5, BX11_hold_0 (d := 6) _ h0.L ⟨1, I2, r, rfl, rfl⟩, BX12_hold_0 (d := 9) _ h0.L ⟨fun _ => ⟨zvin hs3 (by decide), fun I4 e4 => ?_⟩, fun q => absurd (zi02 hs3) (zbi_eq0.mp q)⟩, ρ, n, nx, hs, sl', kt, A, ?_⟩
    · rw [zclm (by omega), show vp_nar .boolean 1 = 1 from rfl, ← e3] at e4
      rw [e4]; exact st
    · refine (zFul.slot h (fun a p1 p2 p3 p4 => by rw [g1 a p3 p4, fr a (by omega) p1]) ?_ ?_ ?_).up (b' := b + 2000) (by omega) hb
      · intro q hq
        by_cases e : q = s
        · rw [e, hsS]
          dsimp only
          refine ⟨by rw [g1 70 (by decide) (by decide), e2, zu_eq], c2.same (fun a p1 p2 => by rw [g1 a (by omega) (by omega), e2, zu_ne (by omega)])⟩
        · rw [hsN q e]
          have := h.2.2.1.1 q hq
          cases es : sl q with
          | none =>
            rw [es] at this
            dsimp only at this ⊢
            rw [g1 70 (by decide) (by decide), e2, zu_k e, e70]; exact this
          | some σ =>
            rw [es] at this
            dsimp only at this ⊢
            exact ⟨by rw [g1 70 (by decide) (by decide), e2, zu_k e, e70]; exact this.1, this.2.same (fun a p1 p2 => by rw [g1 a (by omega) (by omega), fr a (by omega) (by omega)])⟩
      · intro q hq
        by_cases e : q = s
        · rw [e, hsS]
          dsimp only
          refine ⟨by rw [g2, e3, zu_eq], fun k hk => ?_⟩
          rw [e5, zrw_at hk, e3, zu_ne (by decide), fr 457 (by omega) (by decide)]
          have := h0.R k hk
          rwa [Nat.zero_add] at this
        · rw [hsN q e]
          have := h.2.2.1.2.1 q hq
          cases es : sl q with
          | none =>
            rw [es] at this
            dsimp only at this ⊢
            rw [g2, e3, zu_k e, fr 471 (by omega) (by decide)]; exact this
          | some σ =>
            rw [es] at this
            dsimp only at this ⊢
            exact ⟨by rw [g2, e3, zu_k e, fr 471 (by omega) (by decide)]; exact this.1, fun k hk => by rw [g3 _ (by omega)]; exact this.2 k hk⟩
      · intro q hq σ es
        by_cases e : q = s
        · rw [e, hsS] at es
          cases es
          exact ⟨h0.bd, h0.D⟩
        · rw [hsN q e] at es
          exact h.2.2.1.2.2 q hq σ es
theorem X_restore (h : zFul Z I t u v τ Λ b ρ n nx hs sl kt A) (hb : b + 2000 < 500000000) (x : Int32) : zX kX11_restore kX12_restore [some (.ref 0), some (.int x)] [some (.ref 420), some (.int x), none] Z I J t u v τ Λ b := by
  have h0 := h.1
  obtain ⟨⟨⟨q1, q2⟩, hc2⟩, ⟨hm1, hm2⟩, ⟨hn, hnx⟩, hp2⟩ := h.2.1
  rcases zix x (n := 3) (by decide) with hx | ⟨s, hs3, rfl⟩
  · exact zX.q h hb ⟨0, I, I, BX11_restore_0 (d := 6) _ h0.L ⟨0, I, C_goOn0 (d := 8) h0.L hx, rfl, rfl⟩, BX12_restore_0 (d := 9) _ h0.L ⟨fun _ => rfl, fun q => absurd (zbi_eq0.mpr (zn02 hx)) q⟩, zscr.rf⟩
  · have zin := zbi_ne0.mpr (zi02 hs3)
    have k1 := h.2.2.1.1 s hs3
    have k2 := h.2.2.1.2.1 s hs3
    cases es : sl s with
    | none =>
      rw [es] at k1 k2
      dsimp only at k1 k2
      exact zX.q h hb ⟨0, I, I, BX11_restore_0 (d := 6) _ h0.L ⟨0, I, C_goOnE (d := 8) h0.L hs3 k1, rfl, rfl⟩, BX12_restore_0 (d := 9) _ h0.L ⟨fun q => absurd q zin, fun _ => ⟨zvin hs3 (by decide), fun q => absurd (by rw [zclm (by omega)]; exact k2) q, fun _ => rfl⟩⟩, zscr.rf⟩
    | some σ =>
      rw [es] at k1 k2
      dsimp only at k1 k2
      obtain ⟨hσB, hσD⟩ := h.2.2.1.2.2 s hs3 σ es
      obtain ⟨I1, c1, c2, c3⟩ := C_copyE (d := 6) (J := J) (ly_d47 h0.L) (ly_slot h0.L hs3).1 (Or.inl (by omega)) h0.W k1.2 hσD
      have r := C_goOn (d := 8) (J := J) (I := I) (I1 := I1) h0.L hs3 (by rw [k1.1]; decide) (ly_d47 h0.L) c1
      obtain ⟨I2, e2⟩ : ∃ I2 : zI, I2 = zu I1 67 0 0 := ⟨_, rfl⟩
      rw [← e2] at r
      have fr : ∀ a, ¬ (47 ≤ a ∧ a ≤ 56) → a ≠ 67 → I2 a = I a := fun a p1 p2 => by rw [e2, zu_ne p2, c3 a (by omega)]
      have e67 : I1 67 = I 67 := c3 67 (by omega)
      have hE2 : zCE I2 47 τ σ := c2.same (fun a p1 p2 => by rw [e2, zu_ne (by omega)])
      have hH2 : zHc I2 τ 0 nx hs := ⟨⟨by rw [e2, zu_eq]; rfl, by rw [e2, zu_k (by decide), e67]; exact q2⟩, fun i hi => absurd hi (Nat.not_lt_zero _)⟩
      obtain ⟨f, hf⟩ : ∃ f : Nat → Int32, f = fun j => I2 472 (1290 * s + j) := ⟨_, rfl⟩
      have loop : ∀ i, i ≤ 1290 → zE 10 kX12_restore 22 [some (.ref 420), some (.int (nI s)), some (.int (nI i))] [] Z (zrw I2 457 0 f i) J (some (.int 1), Z, zu (zrw I2 457 0 f 1290) 420 58 0, J) := by
        refine zloop _ _ ?_ ?_
        · exact BX12_restore_22 (d := 9) _ _ h0.L ⟨fun _ I4 e4 => by rw [e4], fun q => absurd (by decide) q⟩
        · intro i hi ih
          have ea : ((1290 : Int32) * nI s) + nI i = nI (1290 * s + i) := by rw [show (1290 : Int32) = nI 1290 from rfl, zmul, zadd]
          refine BX12_restore_22 (d := 9) _ _ h0.L ⟨fun q => ?_, fun _ => ⟨by rw [ea]; exact zvin (by omega) (by decide), zvin hi (by decide), fun I4 e4 => ?_⟩⟩
          · exfalso; rw [show (1290 : Int32) = nI 1290 from rfl, zle' (by decide) (by omega)] at q; omega
          · rw [ea, zclm (by omega), zclm (by omega), zrw_ne (a := 457) (b := 472) (by decide)] at e4
            have es := zrw_s (I := I2) (a := 457) (off := 0) (n := i) (f := f) (v := I2 472 (1290 * s + i)) (by rw [hf])
            rw [Nat.zero_add] at es
            rw [e4, es, zadd1]; exact ih
      have st := loop 0 (by decide)
      rw [zrw_0] at st
      obtain ⟨I5, e5⟩ : ∃ I5 : zI, I5 = zu (zrw I2 457 0 f 1290) 420 58 0 := ⟨_, rfl⟩
      rw [← e5] at st
      refine ⟨1, I2, I5, BX11_restore_0 (d := 6) _ h0.L ⟨1, I2, r, rfl, rfl⟩, BX12_restore_0 (d := 9) _ h0.L ⟨fun q => absurd q zin, fun _ => ⟨zvin hs3 (by decide), fun _ => st, fun q => ?_⟩⟩, σ, 0, nx, hs, sl, kt, A, ?_⟩
      · exfalso
        rw [zclm (by omega), fr 471 (by decide) (by decide), k2.1] at q
        exact absurd q (by decide)
      · refine h.move (b' := b + 2000) (by omega) hb hE2 hH2 (fun a p1 p2 _ _ _ => fr a p1 p2) (fun j hj => ?_) ⟨by rw [e5, zu_eq]; rfl, fun i hi => absurd hi (Nat.not_lt_zero _)⟩ (fun a p1 p2 => by rw [e5, zu_ne p1, zrw_ne (by omega)]) (fun j _ p2 _ _ => by rw [e5, zu_k p2, zrw_ne (by decide)]) (h.2.2.2.2.2.1.same (by rw [e5, zu_ne (by decide), zrw_ne (by decide), fr 458 (by decide) (by decide)])) ⟨⟨by omega, hnx⟩, fun i hi => absurd hi (Nat.not_lt_zero _)⟩ hσD (hσB.mono (by omega))
        rw [Nat.zero_add, e5, zu_ne (by decide), zrw_at0 hj, hf]
        dsimp only
        rw [fr 472 (by decide) (by decide)]; exact k2.2 j hj
end
