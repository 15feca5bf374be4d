/-! a day begins; STARTS -/
/-- the day at a text's beginning; the rest of the row is what it was -/
def zbg (DX DY ρ : Nat → Nat) : Nat → Nat := fun k => if k < 7 then DX k else if k < 14 then DY (k - 7) else if k < 30 then 0 else ρ k
/-- doors in the reference's rows on side v -/
def zDr (I : zI) : Prop := ∀ k, k < 14 → ∃ n m, n ≤ 9999 ∧ m ≤ 9999 ∧ I 432 k = nI n ∧ I 433 k = nI m
section
variable {d : Nat} {Z : zZ} {J : zJ} {I I' : zI} {t u v b : Nat} {τ : Nat → Nat → Nat} {Λ : Nat → Option zLaw} {ρ DX DY : Nat → Nat}
theorem zDr.ex (h : zDr I) (hv : v < 2) : ∃ DX DY : Nat → Nat, ∀ m, m < 7 → DX m ≤ 9999 ∧ DY m ≤ 9999 ∧ I 432 (7 * v + m) = nI (DX m) ∧ I 433 (7 * v + m) = nI (DY m) := by
  refine ⟨fun m => (I 432 (7 * v + m)).toNatClampNeg, fun m => (I 433 (7 * v + m)).toNatClampNeg, fun m hm => ?_⟩
  obtain ⟨n, k, h1, h2, h3, h4⟩ := h (7 * v + m) (by omega)
  dsimp only
  rw [h3, h4, zclm (by omega), zclm (by omega)]
  exact ⟨h1, h2, rfl, rfl⟩
theorem M_begins (hL : zLY Z t u) (hv : v < 2) (hlv : I 420 18 = nI v) (hD : ∀ m, m < 7 → I 432 (7 * v + m) = nI (DX m) ∧ I 433 (7 * v + m) = nI (DY m)) (hR : zRM I 458 0 ρ) : ∃ I', zE d kX12_begins 0 [some (.ref 420), none] [] Z I J (none, Z, I', J) ∧ zRM I' 458 0 (zbg DX DY ρ) ∧ (∀ m, m < 7 → I' 459 m = nI 0) ∧ ∀ a, a ≠ 458 → a ≠ 459 → I' a = I a := by
  have em : ∀ {I1 : zI}, I1 420 18 = nI v → ∀ m, ((7 : Int32) * I1 420 18) + nI m = nI (7 * v + m) := fun {I1} h m => by rw [h, show (7 : Int32) = nI 7 from rfl, zmul, zadd]
  have l2 : ∀ m, m ≤ 7 → ∀ I1 : zI, (∀ a, a ≠ 458 → a ≠ 459 → I1 a = I a) → (∀ j, j < m → I1 458 j = nI (DX j) ∧ I1 458 (7 + j) = nI (DY j) ∧ I1 459 j = nI 0) → (∀ j, 14 ≤ j → I1 458 j = if j < 30 then nI 0 else I 458 j) → ∃ I', zE d kX12_begins 23 [some (.ref 420), some (.int (nI m))] [] Z I1 J (none, Z, I', J) ∧ zRM I' 458 0 (zbg DX DY ρ) ∧ (∀ m, m < 7 → I' 459 m = nI 0) ∧ ∀ a, a ≠ 458 → a ≠ 459 → I' a = I a := by
    refine zloop _ _ ?_ ?_
    · intro I1 f1 f2 f3
      refine ⟨I1, BX12_begins_23 _ hL ⟨fun _ => rfl, fun q => absurd (by decide) q⟩, fun k hk => ?_, fun m hm => (f2 m hm).2.2, f1⟩
      rw [Nat.zero_add]
      unfold zbg
      by_cases k7 : k < 7
      · rw [if_pos k7]; exact (f2 k k7).1
      · rw [if_neg k7]
        by_cases k14 : k < 14
        · rw [if_pos k14]
          have := (f2 (k - 7) (by omega)).2.1
          rw [show 7 + (k - 7) = k by omega] at this
          exact this
        · rw [if_neg k14, f3 k (by omega)]
          split
          · rfl
          · exact hR.at hk
    · intro m hm ih I1 f1 f2 f3
      obtain ⟨d1, d2⟩ := hD m hm
      have e18 : I1 420 18 = nI v := by rw [f1 420 (by decide) (by decide)]; exact hlv
      obtain ⟨I', k1, k2⟩ := ih (zu (zu (zu I1 458 m (nI (DX m))) 458 (7 + m) (nI (DY m))) 459 m (nI 0)) (fun a h1 h2 => by rw [zu_ne h2, zu_ne h1, zu_ne h1]; exact f1 a h1 h2) (fun j hj => by
        by_cases e : j = m
        · subst e
          refine ⟨?_, ?_, zu_eq⟩
          · rw [zu_a (by decide), zu_k (by omega), zu_eq]
          · rw [zu_a (by decide), zu_eq]
        · obtain ⟨g1, g2, g3⟩ := f2 j (by omega)
          refine ⟨?_, ?_, ?_⟩
          · rw [zu_a (by decide), zu_k (by omega), zu_k e]; exact g1
          · rw [zu_a (by decide), zu_k (by omega), zu_k (by omega)]; exact g2
          · rw [zu_k e, zu_a (by decide), zu_a (by decide)]; exact g3) (fun j hj => by rw [zu_a (by decide), zu_k (by omega), zu_k (by omega)]; exact f3 j hj)
      refine ⟨I', BX12_begins_23 _ hL ⟨fun q => ?_, fun _ => ⟨by rw [em e18]; exact zvin (by omega) (by decide), zvin (by omega) (by decide), fun I2 e2 => ⟨?_, by rw [zk_7]; exact zvin (by omega) (by decide), fun I3 e3 => ⟨zvin hm (by decide), fun I4 e4 => ?_⟩⟩⟩⟩, k2⟩
      · exfalso; rw [show (7 : Int32) = nI 7 from rfl, zle' (by decide) (by omega)] at q; omega
      · rw [e2, zu_a (by decide), em e18]; exact zvin (by omega) (by decide)
      · rw [em e18, zclm (by omega), zclm (by omega), f1 432 (by decide) (by decide), d1] at e2
        rw [e2, zu_a (by decide), zu_a (by decide), em e18, zclm (by omega), zk_7, zclm (by omega), f1 433 (by decide) (by decide), d2] at e3
        rw [e3, zclm (by omega)] at e4
        rw [e4, zadd1]; exact k1
  have l1 : ∀ i, i ≤ 30 → ∃ I', zE d kX12_begins 2 [some (.ref 420), some (.int (nI i))] [] Z (zrw I 458 0 (fun _ => 0) i) J (none, Z, I', J) ∧ zRM I' 458 0 (zbg DX DY ρ) ∧ (∀ m, m < 7 → I' 459 m = nI 0) ∧ ∀ a, a ≠ 458 → a ≠ 459 → I' a = I a := by
    refine zloop _ _ ?_ ?_
    · obtain ⟨I', k1, k2⟩ := l2 0 (by decide) (zrw I 458 0 (fun _ => 0) 30) (fun a h1 _ => zrw_ne h1) (fun j hj => absurd hj (by omega)) (fun j hj => by
        by_cases e : j < 30
        · rw [zrw_at0 e, if_pos e]; rfl
        · rw [zrw_out (Or.inr (by omega)), if_neg e])
      exact ⟨I', BX12_begins_2 _ hL ⟨fun _ => k1, fun q => absurd (by decide) q⟩, k2⟩
    · intro i hi ih
      obtain ⟨I', k1, k2⟩ := ih
      refine ⟨I', BX12_begins_2 _ hL ⟨fun q => ?_, fun _ => ⟨zvin (by omega) (by decide), fun I2 e2 => ?_⟩⟩, k2⟩
      · exfalso; rw [show (30 : Int32) = nI 30 from rfl, zle' (by decide) (by omega)] at q; omega
      · rw [zclm (by omega)] at e2
        have hs := zrw_s (I := I) (a := 458) (off := 0) (n := i) (f := fun _ => (0 : Int32)) rfl
        rw [Nat.zero_add] at hs
        rw [e2, hs, zadd1]; exact k1
  obtain ⟨I', k1, k2⟩ := l1 0 (by decide)
  rw [zrw_0] at k1
  exact ⟨I', BX12_begins_0 hL k1, k2⟩
theorem zbg_n (m : Nat) (hm : m < 7) : zbg DX DY ρ m = DX m := by unfold zbg; rw [if_pos hm]
theorem zbg_y (m : Nat) (hm : m < 7) : zbg DX DY ρ (7 + m) = DY m := by unfold zbg; rw [if_neg (by omega), if_pos (by omega), Nat.add_sub_cancel_left]
theorem zbg_0 (k : Nat) (h1 : 14 ≤ k) (h2 : k < 30) : zbg DX DY ρ k = 0 := by unfold zbg; rw [if_neg (by omega), if_neg (by omega), if_pos h2]
theorem zbg_l (h7 : τ 0 0 ≤ 7) (q : Nat) : ¬ zlive τ (zbg DX DY ρ) q := by
  rintro ⟨h1, h2⟩
  rw [zbg_0 _ (by omega) (by omega)] at h2; omega
theorem zDW_bg (hW : zTW τ Λ) (hD : ∀ m, m < τ 0 0 → DX m = τ 1 m ∧ DY m = τ 2 m) : zDW τ (zbg DX DY ρ) := by
  have h7 := hW.1.1
  refine ⟨fun m hm => ?_, fun m i hm hi => ?_, fun m i hm hi => ?_, fun q q' hq => absurd hq (zbg_l h7 q)⟩
  · obtain ⟨q1, q2, -⟩ := hW.2.1 m hm
    obtain ⟨e1, e2⟩ := hD m hm
    rw [zbg_n m (by omega), zbg_y m (by omega), zbg_0 (14 + m) (by omega) (by omega), zbg_0 (21 + m) (by omega) (by omega), e1, e2]
    exact ⟨q1, q2, Nat.zero_le _, by decide, fun _ => rfl, fun _ => ⟨rfl, rfl⟩⟩
  · rw [zbg_0 (14 + m) (by omega) (by omega)] at hi
    obtain rfl : i = 0 := by omega
    obtain ⟨q1, q2, -⟩ := hW.2.1 m hm
    simp only [zpX, zpY]; omega
  · rw [zbg_0 (14 + m) (by omega) (by omega)] at hi; omega
theorem zRb_bg (hB : zRb b ρ) (hD : ∀ m, m < 7 → DX m ≤ 9999 ∧ DY m ≤ 9999) : zRb b (zbg DX DY ρ) := by
  have hb := hB.1
  refine ⟨hb, fun k hk h28 => ?_, by rw [zbg_0 28 (by decide) (by decide)]; exact Nat.zero_le _⟩
  unfold zbg
  by_cases k7 : k < 7
  · rw [if_pos k7]; have := (hD k k7).1; omega
  · rw [if_neg k7]
    by_cases k14 : k < 14
    · rw [if_pos k14]; have := (hD (k - 7) (by omega)).2; omega
    · rw [if_neg k14]
      split
      · omega
      · exact hB.2.1 k hk h28
theorem C_begin {d1 t1 : Nat} (hd : zDy Z d1) (ht : zTx Z t1) (htd : t1 + 16 < d1) (hW : zTW τ Λ) (hT : zCT I t1 τ Λ) (hD : ∀ m, m < τ 0 0 → DX m = τ 1 m ∧ DY m = τ 2 m) : ∃ I', zE (d + 2) kX0_begin 0 [some (.ref d1), some (.ref t1)] [] Z I J (none, Z, I', J) ∧ zCD I' d1 τ (zbg DX DY ρ) ∧ I' d1 0 = 0 ∧ I' (d1 + 8) = I (d1 + 8) ∧ ∀ a, ¬ (d1 ≤ a ∧ a ≤ d1 + 9) → I' a = I a := by
  have h7 := hW.1.1
  refine ⟨_, BX0_begin_0 hd ht (fun I1 e1 I2 e2 => ⟨_, S_copyRow (by decide) (zTx_a6 ht) (zDy_a1 hd), _, S_copyRow (by decide) (zTx_a7 ht) (zDy_a2 hd), _, S_fill (by decide) (zDy_a3 hd), _, S_fill (by decide) (zDy_a4 hd), _, S_fill (by decide) (zDy_a9 hd), by rw [e2, e1]⟩), ⟨?_, fun m hm => ⟨?_, ?_, ?_, ?_⟩, fun q hq => absurd hq (zbg_l h7 q), fun s hs => ⟨0, ?_, Or.inl ⟨rfl, fun q hq => absurd hq (zbg_l h7 q)⟩⟩⟩, ?_, ?_, fun a ha => ?_⟩
  · rw [zrw_ne (by omega), zrw_ne (by omega), zrw_ne (by omega), zrw_ne (by omega), zrw_ne (by omega), zu_eq, zbg_0 29 (by decide) (by decide)]; rfl
  · (repeat rw [zrw_ne (by omega)]); rw [zrw_at0 (by omega), zu_a (by omega), zu_a (by omega), zbg_n m (by omega), (hT.2.1 m hm).1, (hD m hm).1]
  · (repeat rw [zrw_ne (by omega)]); rw [zrw_at0 (by omega)]; (repeat rw [zrw_ne (by omega)]); rw [zu_a (by omega), zu_a (by omega), zbg_y m (by omega), (hT.2.1 m hm).2.1, (hD m hm).2]
  · rw [zrw_ne (by omega), zrw_ne (by omega), zrw_at0 (by omega), zbg_0 (14 + m) (by omega) (by omega)]; rfl
  · rw [zrw_ne (by omega), zrw_at0 (by omega), zbg_0 (21 + m) (by omega) (by omega)]; rfl
  · rw [zrw_at0 (zenc_lt hs)]; rfl
  · rw [zrw_ne (by omega), zrw_ne (by omega), zrw_ne (by omega), zrw_ne (by omega), zrw_ne (by omega), zu_k (by decide), zu_eq]
  · rw [zrw_ne (by omega), zrw_ne (by omega), zrw_ne (by omega), zrw_ne (by omega), zrw_ne (by omega), zu_ne (by omega), zu_ne (by omega)]
  · rw [zrw_ne (by omega), zrw_ne (by omega), zrw_ne (by omega), zrw_ne (by omega), zrw_ne (by omega), zu_ne (by omega), zu_ne (by omega)]
/-- what is TOLD -/
def zTd (I : zI) (n k : Nat) (A : Nat → Nat × Nat × Bool) : Prop := (k ≤ 12 ∧ I 415 0 = nI k ∧ I 420 69 = nI k) ∧ ∀ i, i < k → (A i).1 < n ∧ (A i).2.1 < n ∧ (I 416 i = nI (A i).1 ∧ I 417 i = nI (A i).2.1 ∧ I 418 i = zbi ((A i).2.2 = true)) ∧ I 468 i = nI (A i).1 ∧ I 469 i = nI (A i).2.1 ∧ I 470 i = zbi ((A i).2.2 = true)
theorem zTd.sc {n k : Nat} {A : Nat → Nat × Nat × Bool} (h : zTd I n k A) (hs : zscr I I') : zTd I' n k A := by
  unfold zTd
  rw [hs.1 415 (by decide) (by decide) (by decide), hs.2.1 69 (by decide) (by decide) (by decide), hs.1 416 (by decide) (by decide) (by decide), hs.1 417 (by decide) (by decide) (by decide), hs.1 418 (by decide) (by decide) (by decide), hs.1 468 (by decide) (by decide) (by decide), hs.1 469 (by decide) (by decide) (by decide), hs.1 470 (by decide) (by decide) (by decide)]
  exact h
/-- minutes of k MEN's starts -/
def zply (τ : Nat → Nat → Nat) (Λ : Nat → Option zLaw) (lm : Nat → Nat) : Nat → (Nat → Nat) → Nat → Nat
  | 0, ρ => ρ
  | n + 1, ρ => zply τ Λ lm n (zmi τ Λ lm ρ)
/-- all that is KNOWN by k is so, from the i-th on -/
def zfit (ρ : Nat → Nat) (A : Nat → Nat × Nat × Bool) : Nat → Nat → Bool
  | 0, _ => true
  | f + 1, i => if (decide (0 < zov ρ (A i).1 (A i).2.1)) = (A i).2.2 then zfit ρ A f (i + 1) else false
theorem zmi_dn (hW : zTW τ Λ) (lm : Nat → Nat) : zmi τ Λ lm ρ = zup (zgo τ Λ lm (τ 0 0) 0 ρ) 28 (ρ 28 + 1) := by
  unfold zmi; rw [zgo_28 _ _ _ _ (by have := hW.1.1; omega)]
theorem C_play_man (hL : zLY Z t u) (ht3 : t = 3 ∨ t = 30) (hW : zTW τ Λ) {lm : Nat → Nat} (hlm : ∀ m, m < 7 → lm m < 1000) {x3 : Int32} {mi : Nat} (hmi : mi < 1000) {o : zO} : ∀ (k i b : Nat) (I : zI) (ρ : Nat → Nat), i + k = τ 0 0 → b + k < 900000000 → ρ 28 = mi → (∀ m, m < τ 0 0 → I 419 m = nI (lm m)) → zSx I → zCT I t τ Λ → zCD I 57 τ ρ → zDW τ ρ → zRb b ρ →
    ∃ I', zCD I' 57 τ (zgo τ Λ lm k i ρ) ∧ zfb 57 t I I' ∧ ∀ o, zE (d + 5) kX9_play 8 [some (.ref 415), some (.ref t), some (.ref 57), some (.int x3), some (.int (nI mi + 1)), none] [] Z I' J o → zE (d + 5) kX9_play 17 [some (.ref 415), some (.ref t), some (.ref 57), some (.int x3), some (.int (nI mi)), some (.int (nI i))] [] Z I J o := by
  have h7 := hW.1.1
  intro k
  induction k with
  | zero =>
    intro i b I ρ hik hb h28 hl hS hT hC hD hB
    refine ⟨I, hC, zfb.rf, fun o ho => BX9_play_17 _ _ _ hL (ly_tx hL) (ly_d57 hL) ⟨fun _ => ho, fun q => ?_⟩⟩
    exfalso; apply q; rw [hT.1.1, zle' (by omega) (by omega)]; omega
  | succ k ih =>
    intro i b I ρ hik hb h28 hl hS hT hC hD hB
    have hno : ¬ I t 2 ≤ nI i := by rw [hT.1.1, zle' (by omega) (by omega)]; omega
    have a4 : zat I 419 7 (nI i) = nI (lm i) := by rw [zatI (by omega) (by decide), hl i (by omega)]
    have hli := hlm i (by omega)
    have hlt : nI mi < zat I 419 7 (nI i) ↔ ρ 28 < lm i := by rw [a4, zlt (by omega) (by omega), h28]
    simp only [zgo]
    by_cases c : ρ 28 < lm i
    · rw [if_pos c]
      obtain ⟨I', k1, k2, k3⟩ := ih (i + 1) b I ρ (by omega) (by omega) h28 hl hS hT hC hD hB
      exact ⟨I', k1, k2, fun o ho => BX9_play_17 _ _ _ hL (ly_tx hL) (ly_d57 hL) ⟨fun q => absurd q hno, fun _ => ⟨fun _ => by rw [zadd1]; exact k3 o ho, fun q => absurd (hlt.mpr c) q⟩⟩⟩
    · rw [if_neg c]
      obtain ⟨I1, g1, g2, g3⟩ := C_act (d := d) (J := J) hL (ly_d57 hL) (ly_tx hL) (by decide) (by omega) hS hW hT hC hD (hB.b (by omega)) (m := i) (mi := ρ 28 - lm i) (by omega)
      obtain ⟨I', k1, k2, k3⟩ := ih (i + 1) (b + 1) I1 (zact τ Λ ρ i (ρ 28 - lm i)) (by omega) (by omega) (by rw [zact_28 (by omega)]; exact h28) (fun m hm => by rw [g3.1 419 (by decide) (by omega) (by omega)]; exact hl m hm) (hS.a g3 (by omega) (by decide)) (hT.a g3 (by omega)) g2 (zDW_act hW hD (by omega)) (zRb_act hB hD hW (by omega))
      refine ⟨I', k1, g3.b.tr k2, fun o ho => BX9_play_17 _ _ _ hL (ly_tx hL) (ly_d57 hL) ⟨fun q => absurd q hno, fun _ => ⟨fun q => absurd (hlt.mp q) c, fun _ => ⟨I1, ?_, by rw [zadd1]; exact k3 o ho⟩⟩⟩⟩
      rw [a4, zsub (by omega), ← h28]; exact g1
theorem C_play_loop (hL : zLY Z t u) (ht3 : t = 3 ∨ t = 30) (hW : zTW τ Λ) {lm : Nat → Nat} (hlm : ∀ m, m < 7 → lm m < 1000) {n : Nat} (hn : n ≤ 40) : ∀ (f mi b : Nat) (I : zI) (ρ : Nat → Nat), mi + f = n → b + 8 * f < 800000000 → ρ 28 = mi → (∀ m, m < τ 0 0 → I 419 m = nI (lm m)) → zSx I → zCT I t τ Λ → zCD I 57 τ ρ → zDW τ ρ → zRb b ρ →
    ∃ I', zE (d + 5) kX9_play 8 [some (.ref 415), some (.ref t), some (.ref 57), some (.int (nI n)), some (.int (nI mi)), none] [] Z I J (none, Z, I', J) ∧ zCD I' 57 τ (zply τ Λ lm f ρ) ∧ zfb 57 t I I' := by
  have h7 := hW.1.1
  intro f
  induction f with
  | zero =>
    intro mi b I ρ hm hb h28 hl hS hT hC hD hB
    refine ⟨I, BX9_play_8 _ _ hL (ly_tx hL) (ly_d57 hL) ⟨fun _ => rfl, fun q => ?_⟩, hC, zfb.rf⟩
    exfalso; apply q; rw [zle' (by omega) (by omega)]; omega
  | succ f ih =>
    intro mi b I ρ hm hb h28 hl hS hT hC hD hB
    obtain ⟨I1, g1, g2, g3⟩ := C_play_man (d := d) (J := J) (o := (none, Z, I, J)) hL ht3 hW hlm (x3 := nI n) (mi := mi) (by omega) (τ 0 0) 0 b I ρ (by omega) (by omega) h28 hl hS hT hC hD hB
    obtain ⟨m1, m2⟩ := zmi_ok hW lm hD hB
    obtain ⟨I', k1, k2, k3⟩ := ih (mi + 1) (b + 7) I1 (zmi τ Λ lm ρ) (by omega) (by omega) (by rw [zmi_28 hW]; omega) (fun m hm => by rw [g2 419 (by decide) (by omega) (by omega)]; exact hl m hm) (hS.b g2 (by omega) (by decide)) (hT.b g2 (by omega)) (by rw [zmi_dn hW]; exact zCD_28 g1 h7) m1 m2
    refine ⟨I', BX9_play_8 _ _ hL (ly_tx hL) (ly_d57 hL) ⟨fun q => ?_, fun _ => g3 _ (by rw [zadd1]; exact k1)⟩, k2, g2.tr k3⟩
    exfalso; rw [zle' (by omega) (by omega)] at q; omega
theorem zply_ok (hW : zTW τ Λ) (lm : Nat → Nat) : ∀ (f b : Nat) (ρ : Nat → Nat), zDW τ ρ → zRb b ρ → zDW τ (zply τ Λ lm f ρ) ∧ zRb (b + 7 * f) (zply τ Λ lm f ρ) := by
  intro f
  induction f with
  | zero => intro b ρ h1 h2; exact ⟨h1, h2⟩
  | succ f ih =>
    intro b ρ h1 h2
    obtain ⟨a, c⟩ := zmi_ok hW lm h1 h2
    obtain ⟨e, g⟩ := ih (b + 7) _ a c
    exact ⟨e, g.mono (by omega)⟩
theorem C_fits (hL : zLY Z t u) (hW : zTW τ Λ) (hC : zCD I 57 τ ρ) (hD : zDW τ ρ) {k kn : Nat} {A : Nat → Nat × Nat × Bool} (hT : zTd I (τ 0 0) k A) (hkn : kn ≤ k) : zE (d + 2) kX9_fits 0 [some (.ref 415), some (.ref 57), some (.int (nI kn)), none, none] [] Z I J (some (.int (nI (zfit ρ A kn 0).toNat)), Z, I, J) := by
  have hH := hD.h hW
  have k12 := hT.1.1
  have loop : ∀ i, i ≤ kn → zE (d + 2) kX9_fits 2 [some (.ref 415), some (.ref 57), some (.int (nI kn)), some (.int (nI i)), none] [] Z I J (some (.int (nI (zfit ρ A (kn - i) i).toNat)), Z, I, J) := by
    refine zloop _ _ ?_ ?_
    · refine BX9_fits_2 _ _ hL (ly_d57 hL) ⟨fun _ => by rw [Nat.sub_self]; rfl, fun q => absurd (Int32.le_refl _) q⟩
    · intro i hi ih
      obtain ⟨a1, a2, ⟨b1, b2, b3⟩, -⟩ := hT.2 i (by omega)
      have hov := zov_le hH a1 a2
      have pos : nI (zov ρ (A i).1 (A i).2.1) ≤ 0 ↔ ¬ 0 < zov ρ (A i).1 (A i).2.1 := by rw [show (0 : Int32) = nI 0 from rfl, zle' (by omega) (by decide)]; omega
      have e3 : zat I 418 12 (nI i) = 0 ↔ (A i).2.2 = false := by rw [zatI (by omega) (by decide), b3, zbi_eq0]; simp
      rw [show kn - i = (kn - (i + 1)) + 1 by omega]
      simp only [zfit]
      refine BX9_fits_2 _ _ hL (ly_d57 hL) ⟨fun q => ?_, fun _ => ⟨_, by rw [zatI (by omega) (by decide), zatI (by omega) (by decide), b1, b2]; exact C_countOver (ly_d57 hL) hH hD.2.2.2 hC a1 a2, fun q => ⟨fun q2 => ?_, fun q2 => ?_⟩, fun q => ⟨fun q2 => ?_, fun q2 => ?_⟩⟩⟩
      · exfalso; rw [zle' (by omega) (by omega)] at q; omega
      all_goals rw [pos] at q
      all_goals rw [e3] at q2
      · rw [if_pos (by rw [q2]; simp; omega), zadd1]; exact ih
      · rw [if_neg (by intro z; apply q2; rw [← z]; simp; omega)]; rfl
      · rw [if_neg (by rw [q2]; simp; omega)]; rfl
      · rw [if_pos (by have : (A i).2.2 = true := by simpa using q2
                       rw [this]; simp; omega), zadd1]; exact ih
  exact BX9_fits_0 _ hL (ly_d57 hL) (loop 0 (Nat.zero_le _))
/-- a digit -/
abbrev zdg (B w o : Nat) : Nat := w / B ^ o % B
theorem zdg_lt {B w o : Nat} (hB : 0 < B) : zdg B w o < B := Nat.mod_lt _ hB
theorem zdiv_next {B w o : Nat} : w / B ^ (o + 1) = w / B ^ o / B := by rw [Nat.pow_succ, Nat.div_div_eq_div_mul]
theorem C_advance (hL : zLY Z t u) {B w n : Nat} (hB : 1 ≤ B) (hB4 : B ≤ 4) (hn : n ≤ 7) (hr : ∀ m, m < n → I 419 m = nI (zdg B w m)) : ∃ I', zE (d + 1) kX9_advance 0 [some (.ref 415), some (.int (nI n)), some (.int (nI (B - 1))), none] [] Z I J (none, Z, I', J) ∧ (∀ m, m < n → I' 419 m = nI (zdg B (w + 1) m)) ∧ ∀ a, a ≠ 419 → I' a = I a := by
  have loop : ∀ o, o ≤ n → ∀ I1 : zI, (w + 1) / B ^ o = w / B ^ o + 1 → (∀ a, a ≠ 419 → I1 a = I a) → (∀ m, m < o → I1 419 m = nI (zdg B (w + 1) m)) → (∀ m, o ≤ m → m < n → I1 419 m = nI (zdg B w m)) → ∃ I', zE (d + 1) kX9_advance 2 [some (.ref 415), some (.int (nI n)), some (.int (nI (B - 1))), some (.int (nI o))] [] Z I1 J (none, Z, I', J) ∧ (∀ m, m < n → I' 419 m = nI (zdg B (w + 1) m)) ∧ ∀ a, a ≠ 419 → I' a = I a := by
    refine zloop _ _ ?_ ?_
    · intro I1 _ f1 f2 _
      exact ⟨I1, BX9_advance_2 _ _ _ hL ⟨fun _ => rfl, fun q => absurd (Int32.le_refl _) q⟩, f2, f1⟩
    · intro o ho ih I1 fc f1 f2 f3
      have hd := zdg_lt (B := B) (w := w) (o := o) (by omega)
      have a4 : zat I1 419 7 (nI o) = nI (zdg B w o) := by rw [zatI (by omega) (by decide), f3 o (Nat.le_refl _) ho]
      have hno : ¬ nI n ≤ nI o := by rw [zle' (by omega) (by omega)]; omega
      have hle : nI (B - 1) ≤ zat I1 419 7 (nI o) ↔ B - 1 ≤ zdg B w o := by rw [a4, zle' (by omega) (by omega)]
      by_cases c : B - 1 ≤ zdg B w o
      · have he : (w / B ^ o) % B = B - 1 := (show zdg B w o = B - 1 by omega)
        have hx := Nat.div_add_mod (w / B ^ o) B
        have hdiv : (w / B ^ o + 1) / B = w / B ^ o / B + 1 := by
          have : w / B ^ o + 1 = B * (w / B ^ o / B + 1) := by rw [Nat.mul_add]; omega
          rw [this, Nat.mul_div_cancel_left _ (by omega)]
        have hmod : (w / B ^ o + 1) % B = 0 := by
          have : w / B ^ o + 1 = B * (w / B ^ o / B + 1) := by rw [Nat.mul_add]; omega
          rw [this, Nat.mul_mod_right]
        obtain ⟨I', k1, k2⟩ := ih (zu I1 419 o 0) (by rw [zdiv_next, zdiv_next, fc, hdiv]) (fun a ha => by rw [zu_ne ha]; exact f1 a ha) (fun m hm => by
          by_cases e : m = o
          · subst e; rw [zu_eq]; unfold zdg; rw [fc, hmod]; rfl
          · rw [zu_k e]; exact f2 m (by omega)) (fun m h1 h2 => by rw [zu_k (by omega)]; exact f3 m (by omega) h2)
        refine ⟨I', BX9_advance_2 _ _ _ hL ⟨fun q => absurd q hno, fun _ => ⟨fun _ I2 e2 => ?_, fun q => absurd (hle.mpr c) q⟩⟩, k2⟩
        rw [zptI (by omega) (by decide)] at e2
        rw [e2, zadd1]; exact k1
      · have hx := Nat.div_add_mod (w / B ^ o) B
        have hlt : (w / B ^ o) % B + 1 < B := (show zdg B w o + 1 < B by omega)
        have hdiv : (w / B ^ o + 1) / B = w / B ^ o / B := by
          have : w / B ^ o + 1 = B * (w / B ^ o / B) + ((w / B ^ o) % B + 1) := by omega
          rw [this, Nat.mul_add_div (by omega), Nat.div_eq_of_lt hlt, Nat.add_zero]
        have hmod : (w / B ^ o + 1) % B = (w / B ^ o) % B + 1 := by
          have : w / B ^ o + 1 = B * (w / B ^ o / B) + ((w / B ^ o) % B + 1) := by omega
          rw [this, Nat.mul_add_mod, Nat.mod_eq_of_lt hlt]
        have up : ∀ m, o < m → (w + 1) / B ^ m = w / B ^ m := fun m hm => by
          have : ∀ k, (w + 1) / B ^ (o + 1 + k) = w / B ^ (o + 1 + k) := fun k => by
            induction k with
            | zero => rw [Nat.add_zero, zdiv_next, zdiv_next, fc, hdiv]
            | succ k ihk => rw [show o + 1 + (k + 1) = (o + 1 + k) + 1 by omega, zdiv_next, zdiv_next, ihk]
          have h := this (m - (o + 1))
          rw [show o + 1 + (m - (o + 1)) = m by omega] at h
          exact h
        refine ⟨zu I1 419 o (nI (zdg B w o + 1)), BX9_advance_2 _ _ _ hL ⟨fun q => absurd q hno, fun _ => ⟨fun q => absurd (hle.mp q) c, fun _ I2 e2 => ?_⟩⟩, fun m hm => ?_, fun a ha => by rw [zu_ne ha]; exact f1 a ha⟩
        · rw [zptI (by omega) (by decide), a4, zadd1] at e2
          rw [e2]
        · by_cases e : m = o
          · subst e; rw [zu_eq]; unfold zdg; rw [fc, hmod]
          · rw [zu_k e]
            by_cases hlt2 : m < o
            · exact f2 m hlt2
            · rw [f3 m (by omega) hm]; unfold zdg; rw [up m (by omega)]
  obtain ⟨I', k1, k2⟩ := loop 0 (Nat.zero_le _) I (by simp) (fun _ _ => rfl) (fun m hm => absurd hm (by omega)) (fun m _ hm => hr m hm)
  exact ⟨I', BX9_advance_0 _ _ hL k1, k2⟩
end
