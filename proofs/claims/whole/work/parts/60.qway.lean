/-! WAY, the WAY's order, where he could live -/
section
variable {d : Nat} {Z : zZ} {J : zJ} {I I' : zI} {t u v b : Nat} {τ : Nat → Nat → Nat} {Λ : Nat → Option zLaw} {ρ : Nat → Nat}
theorem M_wayOf (hL : zLY Z t u) (hW : zTW τ Λ) (hM : zMT I v τ Λ) {m : Nat} (hm : m < τ 0 0) :
    ∃ (I' : zI), zE (d + 2) kX12_wayOf 0 [some (.ref 420), some (.int (nI m))] [] Z I J (some (.int (nI (zbp (zer τ m) (τ 4 m) (2 ^ τ 4 m - 1) (τ 1 m) (τ 2 m)).1)), Z, I', J) ∧ (∀ i, i < τ 4 m → I' 464 i = nI (zga2 (zbp (zer τ m) (τ 4 m) (2 ^ τ 4 m - 1) (τ 1 m) (τ 2 m)).2 i)) ∧ ∀ a, a ≠ 463 → a ≠ 464 → I' a = I a := by
  have h7 := hW.1.1
  have w1 := hW.1
  have hv2 := hM.1.1
  have hdr := hW.2.1 m hm
  have ev : ((7 : Int32) * (I 420 18)) + nI m = nI (7 * v + m) := by rw [hM.1.2, show (7 : Int32) = nI 7 from rfl, zmul, zadd]
  have v14 : vp_in (((7 : Int32) * (I 420 18)) + nI m) 14 := by rw [ev]; exact zvin (by omega) (by decide)
  have rx : I 432 (((7 : Int32) * (I 420 18)) + nI m).toNatClampNeg = nI (τ 1 m) := by rw [ev, zclm (by omega)]; exact (hM.2.2.1 m hm).1
  have ry : I 433 (((7 : Int32) * (I 420 18)) + nI m).toNatClampNeg = nI (τ 2 m) := by rw [ev, zclm (by omega)]; exact (hM.2.2.1 m hm).2.1
  obtain ⟨I', k0, k1, k2, k3⟩ := M_wayFrom (d := d) (J := J) hL hW hM hm (x := τ 1 m) (y := τ 2 m) (by omega) (by omega)
  exact ⟨I', BX12_wayOf_0 _ hL ⟨v14, v14, _, I', by rw [rx, ry]; exact k1, rfl⟩, k2, k3⟩
theorem zscr.ab {a c : Nat} (ha : a ∈ zscl0) (hc : c ∈ zscl0) (h : ∀ x, x ≠ a → x ≠ c → I' x = I x) : zscr I I' := zscr.of fun x p _ => h x (fun z => p (z ▸ ha)) (fun z => p (z ▸ hc))
theorem Q_way (h : zR0 Z I t u v τ Λ b ρ) (x : Int32) : zQ2 kX11_way kX12_way [some (.ref 0), some (.int x)] [some (.ref 420), some (.int x)] Z I J := by
  have h7 := h.n7
  have ht3 := h.t3
  by_cases hx : zism τ x
  · obtain ⟨m, hm, rfl⟩ := (zism_iff h7 x).mp hx
    have hdr := h.W.2.1 m hm
    have w1 := h.W.1
    refine zQ2.of h (nI (zbp (zer τ m) (τ 4 m) (2 ^ τ 4 m - 1) (τ 1 m) (τ 2 m)).1) ?_ (fun I1 h => ?_)
    · obtain ⟨I1, k1, k2, k3⟩ := C_prepare (d := 4) (J := J) h.L (ly_tx h.L) (by omega) h.W h.T hm
      have hT1 : zCT I1 t τ Λ := h.T.same (fun a _ _ _ _ => k3 a (by omega))
      have e1 : zat I1 (t + 6) 7 (nI m) = nI (τ 1 m) := by rw [zatI (by omega) (by decide), (hT1.2.1 m hm).1]
      have e2 : zat I1 (t + 7) 7 (nI m) = nI (τ 2 m) := by rw [zatI (by omega) (by decide), (hT1.2.1 m hm).2.1]
      refine ⟨I1, BX11_way_0 (d := 4) _ h.L ⟨_, C_isMan h.L h7 h.men, fun _ => ⟨I1, k1, _, ?_, rfl⟩, fun q => absurd hx (zbi_eq0.mp q)⟩, zscr.of fun a p _ => k3 a (fun z => p (by rw [z]; decide))⟩
      rw [e1, e2]
      exact C_fewest (d := 4) (J := J) h.L (ly_tx h.L) h.W hT1 hm (by omega) (by omega) k2
    · obtain ⟨I2, k1, k2, k3⟩ := M_wayOf (d := 7) (J := J) h.L h.W h.M hm
      exact ⟨I2, BX12_way_0 (d := 7) _ h.L ⟨_, M_isMan h.L h.W h.M, fun q => absurd hx (zbi_eq0.mp q), fun _ => ⟨_, I2, k1, rfl⟩⟩, zscr.ab (a := 463) (c := 464) (by decide) (by decide) k3⟩
  · refine zQ2.of h (-1) ⟨I, BX11_way_0 (d := 4) _ h.L ⟨_, C_isMan h.L h7 h.men, fun q => absurd (zbi_eq0.mpr hx) q, fun _ => rfl⟩, zscr.rf⟩ (fun I1 h => ⟨I1, BX12_way_0 (d := 7) _ h.L ⟨_, M_isMan h.L h.W h.M, fun _ => rfl, fun q => absurd (zbi_eq0.mpr hx) q⟩, zscr.rf⟩)
theorem Q_wayAt (h : zR0 Z I t u v τ Λ b ρ) (x y : Int32) : zQ2 kX11_wayAt kX12_wayAt [some (.ref 0), some (.int x), some (.int y)] [some (.ref 420), some (.int x), some (.int y)] Z I J := by
  have h7 := h.n7
  have ht3 := h.t3
  by_cases hx : zism τ x
  · obtain ⟨m, hm, rfl⟩ := (zism_iff h7 x).mp hx
    have hdr := h.W.2.1 m hm
    have w1 := h.W.1
    have hv2 := h.M.1.1
    have a4 : zat I (t + 11) 7 (nI m) = nI (τ 4 m) := by rw [zatI (by omega) (by decide), (h.T.2.1 m hm).2.2.2.1]
    have m4 : ∀ {I1 : zI}, zR0 Z I1 t u v τ Λ b ρ → vp_in (((7 : Int32) * (I1 420 18)) + nI m) 14 ∧ I1 435 (((7 : Int32) * (I1 420 18)) + nI m).toNatClampNeg = nI (τ 4 m) := fun {I1} h1 => by
      have ev : ((7 : Int32) * (I1 420 18)) + nI m = nI (7 * v + m) := by rw [h1.M.1.2, show (7 : Int32) = nI 7 from rfl, zmul, zadd]
      rw [ev, zclm (by omega)]
      exact ⟨zvin (by omega) (by decide), (h1.M.2.2.1 m hm).2.2.2⟩
    by_cases hy : 0 ≤ y ∧ y ≤ nI (τ 4 m) - 1
    · obtain ⟨i, hi, rfl⟩ : ∃ i, i < τ 4 m ∧ y = nI i := by
        obtain ⟨i, hi, rfl⟩ := znI_ex y (Int32.not_lt.mpr hy.1)
        refine ⟨i, ?_, rfl⟩
        have := hy.2
        by_cases e0 : τ 4 m = 0
        · rw [e0, show nI 0 - 1 = (-1 : Int32) by decide] at this
          exact absurd (Int32.le_trans (znn (by omega : i < 2147483648)) this) (by decide)
        · rw [show (1 : Int32) = nI 1 from rfl, zsub (by omega), zle' (by omega) (by omega)] at this
          omega
      refine zQ2.of h (nI (zga2 (zbp (zer τ m) (τ 4 m) (2 ^ τ 4 m - 1) (τ 1 m) (τ 2 m)).2 i)) ?_ (fun I1 h => ?_)
      · obtain ⟨I1, k1, k2, k3⟩ := C_prepare (d := 4) (J := J) h.L (ly_tx h.L) (by omega) h.W h.T hm
        have hT1 : zCT I1 t τ Λ := h.T.same (fun a _ _ _ _ => k3 a (by omega))
        obtain ⟨I2, l1, l2, l3⟩ := C_findOrder2 (d := 5) (J := J) h.L (ly_tx h.L) (by omega) h.W hT1 hm k2
        refine ⟨I2, BX11_wayAt_0 (d := 4) _ _ h.L ⟨_, C_isMan h.L h7 h.men, fun q => absurd hx (zbi_eq0.mp q), fun _ => ⟨fun q => absurd q (zneg (by omega)), fun _ => ⟨fun _ => ⟨I1, k1, I2, l1, ?_⟩, fun q => ?_⟩⟩⟩, zscr.ab (a := 408) (c := 409) (by decide) (by decide) (fun a h1 h2 => by rw [l3 a h1, k3 a h2])⟩
        · rw [zatI (by omega) (by decide), l2 i hi]
        · exfalso; rw [a4, zlt (by omega) (by omega)] at q; omega
      · obtain ⟨I2, k1, k2, k3⟩ := M_wayOf (d := 7) (J := J) h.L h.W h.M hm
        refine ⟨I2, BX12_wayAt_0 (d := 7) _ _ h.L ⟨_, M_isMan h.L h.W h.M, fun q => absurd hx (zbi_eq0.mp q), fun _ => ⟨(m4 h).1, fun _ => ⟨_, I2, k1, zvin (by omega) (by decide), ?_⟩, fun q => ?_⟩⟩, zscr.ab (a := 463) (c := 464) (by decide) (by decide) k3⟩
        · rw [zclm (by omega), k2 i hi]
        · rw [(m4 h).2] at q; exact absurd hy (zbi_eq0.mp q)
    · have hy' : ¬ y < 0 → ¬ y < nI (τ 4 m) := by
        intro h0 h1
        apply hy
        refine ⟨Int32.not_lt.mp h0, ?_⟩
        obtain ⟨i, hi, rfl⟩ := znI_ex y h0
        rw [zlt (by omega) (by omega)] at h1
        rw [show (1 : Int32) = nI 1 from rfl, zsub (by omega), zle' (by omega) (by omega)]
        omega
      refine zQ2.of h (-1) ⟨I, BX11_wayAt_0 (d := 4) _ _ h.L ⟨_, C_isMan h.L h7 h.men, fun _ => rfl, fun _ => ⟨fun _ => rfl, fun q0 => ⟨fun q => ?_, fun _ => rfl⟩⟩⟩, zscr.rf⟩ (fun I1 h => ⟨I1, BX12_wayAt_0 (d := 7) _ _ h.L ⟨_, M_isMan h.L h.W h.M, fun _ => rfl, fun _ => ⟨(m4 h).1, fun q => ?_, fun _ => rfl⟩⟩, zscr.rf⟩)
      · rw [a4] at q; exact absurd q (hy' q0)
      · rw [(m4 h).2] at q; exact absurd (zbi_eq0.mpr hy) q
  · refine zQ2.of h (-1) ⟨I, BX11_wayAt_0 (d := 4) _ _ h.L ⟨_, C_isMan h.L h7 h.men, fun _ => rfl, fun q => absurd (zbi_eq0.mpr hx) q⟩, zscr.rf⟩ (fun I1 h => ⟨I1, BX12_wayAt_0 (d := 7) _ _ h.L ⟨_, M_isMan h.L h.W h.M, fun _ => rfl, fun q => absurd (zbi_eq0.mpr hx) q⟩, zscr.rf⟩)
theorem zcor_nI (hW : zTW τ Λ) {x y : Nat} (hx : x < 1000) (hy : y < 1000) : zcor τ (nI x) (nI y) ↔ x < τ 0 1 ∧ y < τ 0 2 := by
  have w1 := hW.1
  unfold zcor
  rw [show (1 : Int32) = nI 1 from rfl, zsub (by omega), zsub (by omega), zle' (by omega) (by omega), zle' (by omega) (by omega)]
  constructor
  · rintro ⟨⟨_, a⟩, _, c⟩; omega
  · rintro ⟨a, c⟩; exact ⟨⟨znn (by omega), by omega⟩, znn (by omega), by omega⟩
/-- he could live at a corner -/
def zlvs (τ : Nat → Nat → Nat) (m c : Nat) : Nat := if (c % 12 < τ 0 1 ∧ c / 12 < τ 0 2) ∧ (zbp (zer τ m) (τ 4 m) (2 ^ τ 4 m - 1) (c % 12) (c / 12)).1 ≤ τ 9 m then 1 else 0
theorem zlvs_at {m x' y' : Nat} (hx : x' < 12) : zlvs τ m (12 * y' + x') = if (x' < τ 0 1 ∧ y' < τ 0 2) ∧ (zbp (zer τ m) (τ 4 m) (2 ^ τ 4 m - 1) x' y').1 ≤ τ 9 m then 1 else 0 := by
  unfold zlvs; rw [show (12 * y' + x') % 12 = x' by omega, show (12 * y' + x') / 12 = y' by omega]
theorem zbp_k (hW : zTW τ Λ) {m x y : Nat} (hm : m < τ 0 0) (hx : x < 12) (hy : y < 12) : (zbp (zer τ m) (τ 4 m) (2 ^ τ 4 m - 1) x y).1 < 1000 := by
  have h4 := (hW.2.1 m hm).2.2.2.1
  have h1 : 1 ≤ 2 ^ τ 4 m := Nat.one_le_two_pow
  have := zbp_le (zer_lt hW hm) (τ 4 m) (2 ^ τ 4 m - 1) x y (fun i hi => zbit_k (by omega) hi) hx hy
  omega
theorem Q_lives (h : zR0 Z I t u v τ Λ b ρ) (x : Int32) : zQ2 kX11_lives kX12_lives [some (.ref 0), some (.int x)] [some (.ref 420), some (.int x), none, none, none, none] Z I J := by
  have h7 := h.n7
  have ht3 := h.t3
  by_cases hx : zism τ x
  · obtain ⟨m, hm, rfl⟩ := (zism_iff h7 x).mp hx
    have hdr := h.W.2.1 m hm
    have w1 := h.W.1
    have out : ∀ c, ¬ (c % 12 < τ 0 1 ∧ c / 12 < τ 0 2) → zlvs τ m c = 0 := fun c hc => by unfold zlvs; rw [if_neg (fun z => hc z.1)]
    refine zQ2.of h (nI (zsum (zlvs τ m) 0 144)) ?_ (fun I1 h => ?_)
    · obtain ⟨I1, k1, k2, k3⟩ := C_prepare (d := 4) (J := J) h.L (ly_tx h.L) (by omega) h.W h.T hm
      have hT1 : zCT I1 t τ Λ := h.T.same (fun a _ _ _ _ => k3 a (by omega))
      have a9 : zat I1 (t + 9) 7 (nI m) = nI (τ 9 m) := by rw [zatI (by omega) (by decide), (hT1.2.1 m hm).2.2.2.2.1]
      have loop : ∀ c, c ≤ 144 → zE 9 kX10_countHomes 5 [some (.ref 407), some (.ref t), some (.int (nI m)), some (.int (nI (zsum (zlvs τ m) 0 c))), some (.int (nI c)), none, none] [] Z I1 J (some (.int (nI (zsum (zlvs τ m) 0 144))), Z, I1, J) := by
        refine zloop _ _ ?_ ?_
        · exact BX10_countHomes_5 (d := 3) _ _ _ h.L (ly_tx h.L) ⟨fun _ => rfl, fun q => absurd (by decide) q⟩
        · intro c hc ih
          rw [zsum_last, Nat.zero_add] at ih
          have ed : nI c / 12 = nI (c / 12) := by rw [show (12 : Int32) = nI 12 from rfl, zdiv (by omega) (by decide) (by decide)]
          have er : nI c - nI c / 12 * 12 = nI (c % 12) := by rw [show (12 : Int32) = nI 12 from rfl, zrem (by omega) (by decide) (by decide)]
          have b1 := zbp_k h.W hm (x := c % 12) (y := c / 12) (by omega) (by omega)
          refine BX10_countHomes_5 (d := 3) _ _ _ h.L (ly_tx h.L) ⟨fun q => ?_, fun _ => ⟨zbi (zcor τ (nI (c % 12)) (nI (c / 12))), ?_, fun q => ?_, fun q => ⟨nI (zbp (zer τ m) (τ 4 m) (2 ^ τ 4 m - 1) (c % 12) (c / 12)).1, ?_, fun q2 => ?_, fun q2 => ?_⟩⟩⟩
          · exfalso; rw [show (144 : Int32) = nI 144 from rfl, zle' (by omega) (by omega)] at q; omega
          · rw [er, ed]; exact S_hasCorner (ly_tx h.L) h.W hT1
          · rw [zbi_eq0, zcor_nI h.W (by omega) (by omega)] at q
            rw [out c q, Nat.add_zero] at ih
            rw [zadd1]; exact ih
          · rw [er, ed]; exact C_fewest (d := 3) (J := J) h.L (ly_tx h.L) h.W hT1 hm (by omega) (by omega) k2
          all_goals have q' := fun z => q (zbi_eq0.mpr z)
          all_goals rw [zcor_nI h.W (by omega) (by omega)] at q'
          all_goals rw [a9, zlt (by omega) (by omega)] at q2
          · have : zlvs τ m c = 0 := by unfold zlvs; rw [if_neg (fun z => by omega)]
            rw [this, Nat.add_zero] at ih
            rw [zadd1]; exact ih
          · have : zlvs τ m c = 1 := by unfold zlvs; rw [if_pos ⟨Decidable.not_not.mp q', by omega⟩]
            rw [this] at ih
            rw [zadd1, zadd1]; exact ih
      exact ⟨I1, BX11_lives_0 (d := 3) _ h.L ⟨_, C_isMan h.L h7 h.men, fun _ => ⟨I1, k1, _, BX10_countHomes_0 (d := 3) _ h.L (ly_tx h.L) (loop 0 (by decide)), rfl⟩, fun q => absurd hx (zbi_eq0.mp q)⟩, zscr.of fun a p _ => k3 a (fun z => p (by rw [z]; decide))⟩
    · obtain ⟨I2, g1, g2⟩ := M_longOf (d := 7) (J := J) h.L h.W h.M hm
      have hs2 : zscr I1 I2 := zscr.fl g2
      have h2 := h.sc hs2
      -- the corners
      have rows : ∀ y', y' ≤ τ 0 2 → ∀ I3 : zI, (∀ a, a ≠ 463 → a ≠ 464 → I3 a = I2 a) → ∃ I4, zE 10 kX12_lives 21 [some (.ref 420), some (.int (nI m)), some (.int (nI (τ 9 m))), some (.int (nI (zsum (zlvs τ m) 0 (12 * y')))), some (.int (nI y')), none] [] Z I3 J (some (.int (nI (zsum (zlvs τ m) 0 144))), Z, I4, J) ∧ ∀ a, a ≠ 463 → a ≠ 464 → I4 a = I2 a := by
        refine zloop _ _ ?_ ?_
        · intro I3 e3
          have hM3 : zMT I3 v τ Λ := h2.M.same (by rw [e3 420 (by decide) (by decide)]) (fun a _ _ => e3 a (by omega) (by omega))
          have sk : zsum (zlvs τ m) 0 144 = zsum (zlvs τ m) 0 (12 * τ 0 2) := by
            have := zsum_split (f := zlvs τ m) (i := 0) (a := 12 * τ 0 2) (b := 144 - 12 * τ 0 2)
            rw [show 12 * τ 0 2 + (144 - 12 * τ 0 2) = 144 by omega, zsum_0 (i := 0 + 12 * τ 0 2) (fun j h1 h2 => out j (by omega)), Nat.add_zero] at this
            exact this
          refine ⟨I3, BX12_lives_21 (d := 7) _ _ _ _ h.L ⟨by rw [hM3.1.2]; exact zvin hM3.1.1 (by decide), fun _ => by rw [sk], fun q => absurd ?_ q⟩, e3⟩
          rw [hM3.1.2, zclm (by have := hM3.1.1; omega), hM3.2.1.2.2.1]; exact Int32.le_refl _
        · intro y' hy ihy I3 e3
          have cols : ∀ x', x' ≤ τ 0 1 → ∀ I3 : zI, (∀ a, a ≠ 463 → a ≠ 464 → I3 a = I2 a) → ∃ I4, zE 10 kX12_lives 38 [some (.ref 420), some (.int (nI m)), some (.int (nI (τ 9 m))), some (.int (nI (zsum (zlvs τ m) 0 (12 * y' + x')))), some (.int (nI y')), some (.int (nI x'))] [] Z I3 J (some (.int (nI (zsum (zlvs τ m) 0 144))), Z, I4, J) ∧ ∀ a, a ≠ 463 → a ≠ 464 → I4 a = I2 a := by
            refine zloop _ _ ?_ ?_
            · intro I3 e3
              have hM3 : zMT I3 v τ Λ := h2.M.same (by rw [e3 420 (by decide) (by decide)]) (fun a _ _ => e3 a (by omega) (by omega))
              obtain ⟨I4, k1, k2⟩ := ihy I3 e3
              have sk : zsum (zlvs τ m) 0 (12 * (y' + 1)) = zsum (zlvs τ m) 0 (12 * y' + τ 0 1) := by
                have := zsum_split (f := zlvs τ m) (i := 0) (a := 12 * y' + τ 0 1) (b := 12 - τ 0 1)
                rw [show 12 * y' + τ 0 1 + (12 - τ 0 1) = 12 * (y' + 1) by omega, zsum_0 (i := 0 + (12 * y' + τ 0 1)) (fun j h1 h2 => out j (by omega)), Nat.add_zero] at this
                exact this
              rw [sk] at k1
              refine ⟨I4, BX12_lives_38 (d := 7) _ _ _ _ _ h.L ⟨by rw [hM3.1.2]; exact zvin hM3.1.1 (by decide), fun _ => by rw [zadd1]; exact k1, fun q => absurd ?_ q⟩, k2⟩
              rw [hM3.1.2, zclm (by have := hM3.1.1; omega), hM3.2.1.2.1]; exact Int32.le_refl _
            · intro x' hx' ihx I3 e3
              have hM3 : zMT I3 v τ Λ := h2.M.same (by rw [e3 420 (by decide) (by decide)]) (fun a _ _ => e3 a (by omega) (by omega))
              obtain ⟨I4, l0, l1, l2, l3⟩ := M_wayFrom (d := 8) (J := J) h.L h.W hM3 hm (x := x') (y := y') (by omega) (by omega)
              have e4 : ∀ a, a ≠ 463 → a ≠ 464 → I4 a = I2 a := fun a h1 h2 => (l3 a h1 h2).trans (e3 a h1 h2)
              obtain ⟨I5, k1, k2⟩ := ihx I4 e4
              rw [← Nat.add_assoc, zsum_last, Nat.zero_add] at k1
              refine ⟨I5, BX12_lives_38 (d := 7) _ _ _ _ _ h.L ⟨by rw [hM3.1.2]; exact zvin hM3.1.1 (by decide), fun q => ?_, fun _ => ⟨_, I4, l1, fun q => ?_, fun q => ?_⟩⟩, k2⟩
              · exfalso; rw [hM3.1.2, zclm (by have := hM3.1.1; omega), hM3.2.1.2.1, zle' (by omega) (by omega)] at q; omega
              all_goals rw [zlt (by omega) (by omega)] at q
              all_goals rw [zlvs_at (by omega)] at k1
              · rw [if_neg (fun z => by omega), Nat.add_zero] at k1
                rw [zadd1]; exact k1
              · rw [if_pos ⟨⟨hx', hy⟩, by omega⟩] at k1
                rw [zadd1, zadd1]; exact k1
          have hM3 : zMT I3 v τ Λ := h2.M.same (by rw [e3 420 (by decide) (by decide)]) (fun a _ _ => e3 a (by omega) (by omega))
          obtain ⟨I4, k1, k2⟩ := cols 0 (Nat.zero_le _) I3 e3
          refine ⟨I4, BX12_lives_21 (d := 7) _ _ _ _ h.L ⟨by rw [hM3.1.2]; exact zvin hM3.1.1 (by decide), fun q => ?_, fun _ => k1⟩, k2⟩
          exfalso; rw [hM3.1.2, zclm (by have := hM3.1.1; omega), hM3.2.1.2.2.1, zle' (by omega) (by omega)] at q; omega
      obtain ⟨I4, k1, k2⟩ := rows 0 (Nat.zero_le _) I2 (fun _ _ _ => rfl)
      exact ⟨I4, BX12_lives_0 (d := 7) _ h.L ⟨_, M_isMan h.L h.W h.M, fun _ => ⟨_, I2, g1, k1⟩, fun q => absurd hx (zbi_eq0.mp q)⟩, hs2.tr (zscr.ab (a := 463) (c := 464) (by decide) (by decide) k2)⟩
  · refine zQ2.of h (-1) ⟨I, BX11_lives_0 (d := 3) _ h.L ⟨_, C_isMan h.L h7 h.men, fun q => absurd (zbi_eq0.mpr hx) q, fun _ => rfl⟩, zscr.rf⟩ (fun I1 h => ⟨I1, BX12_lives_0 (d := 7) _ h.L ⟨_, M_isMan h.L h.W h.M, fun q => absurd (zbi_eq0.mpr hx) q, fun _ => rfl⟩, zscr.rf⟩)
end
