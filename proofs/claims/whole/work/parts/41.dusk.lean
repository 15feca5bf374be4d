/-! DUSK -/
theorem zush (u : UInt32) : ∃ j, j < 2147483648 ∧ (u >>> (Int32.toUInt32 1 &&& Int32.toUInt32 31)).toInt32 = nI j := by
  have e : (Int32.toUInt32 1 &&& Int32.toUInt32 31) = 1 := by decide
  rw [e]
  refine ⟨(u >>> 1).toNat, ?_, ?_⟩
  · have h : (u >>> 1).toNat = u.toNat >>> 1 := by rw [UInt32.toNat_shiftRight]; rfl
    have := u.toNat_lt
    rw [h, Nat.shiftRight_eq_div_pow]; omega
  · show (u >>> 1).toInt32 = (UInt32.ofNat (u >>> 1).toNat).toInt32
    rw [UInt32.ofNat_toNat]
theorem zlotv_b (s w : Int32) {n : Nat} (h0 : 0 < n) (hn : n < 2147483648) : ∃ k, k < n ∧ zlotv s w (nI n) = nI k := by
  obtain ⟨j, hj, e⟩ := zush (zstir (zstir s 28) w).toUInt32
  refine ⟨j % n, Nat.mod_lt _ h0, ?_⟩
  unfold zlotv
  rw [e, zrem hj h0 hn]
/-- the first of the greatest who are not done -/
def zgp (K : Nat → Nat) (D : Nat) : Nat → Option Nat
  | 0 => none
  | n + 1 => if D.testBit n = true then zgp K D n else match zgp K D n with
    | none => some n
    | some w => if K w < K n then some n else some w
theorem zgp_some {K : Nat → Nat} {D n w : Nat} (h : zgp K D n = some w) : w < n ∧ D.testBit w = false := by
  induction n generalizing w with
  | zero => simp [zgp] at h
  | succ n ih =>
    simp only [zgp] at h
    by_cases q : D.testBit n = true
    · rw [if_pos q] at h; have := ih h; exact ⟨by omega, this.2⟩
    · rw [if_neg q] at h
      cases hz : zgp K D n with
      | none => rw [hz] at h; injection h with h; subst h; exact ⟨by omega, by simpa using q⟩
      | some w' =>
        rw [hz] at h
        have := ih hz
        simp only at h
        split at h <;> injection h with h <;> subst h
        · exact ⟨by omega, by simpa using q⟩
        · exact ⟨by omega, this.2⟩
theorem zgp_none {K : Nat → Nat} {D n : Nat} (h : zgp K D n = none) : ∀ m, m < n → D.testBit m = true := by
  induction n with
  | zero => intro m hm; omega
  | succ n ih =>
    simp only [zgp] at h
    by_cases q : D.testBit n = true
    · rw [if_pos q] at h
      intro m hm
      by_cases e : m = n
      · rw [e]; exact q
      · exact ih h m (by omega)
    · rw [if_neg q] at h
      cases hz : zgp K D n with
      | none => rw [hz] at h; simp at h
      | some w' => rw [hz] at h; simp only at h; split at h <;> simp at h
def zcd (D n : Nat) : Nat := zsum (fun m => (D.testBit m).toNat) 0 n
theorem zcd_set {D w n : Nat} (hw : w < n) (h : D.testBit w = false) : zcd (D ||| 2 ^ w) n = zcd D n + 1 := by
  have := zsum_delta (c := 1) (j0 := w) (i := 0) (k := n)
  rw [if_pos ⟨Nat.zero_le _, by omega⟩] at this
  unfold zcd
  rw [← this, ← zsum_add]
  refine zsum_congr fun m _ _ => ?_
  rw [Nat.testBit_or, zb_tp]
  by_cases e : m = w
  · subst e; rw [h, if_pos rfl]; simp
  · rw [if_neg e, decide_eq_false (fun z => e z.symm), Bool.or_false, Nat.add_zero]
theorem zcd_full {D n : Nat} (h : ∀ m, m < n → D.testBit m = true) : zcd D n = n := by
  have : zcd D n = zsum (fun _ => 1) 0 n := zsum_congr fun m _ hm => by rw [h m (by omega)]; rfl
  rw [this]
  have : ∀ i k, zsum (fun _ => 1) i k = k := fun i k => by
    induction k generalizing i with
    | zero => rfl
    | succ k ih => simp only [zsum]; rw [ih]; omega
  exact this 0 n
section
variable {d : Nat} {Z : zZ} {J : zJ} {I I' : zI} {t u v b : Nat} {τ : Nat → Nat → Nat} {Λ : Nat → Option zLaw} {ρ : Nat → Nat}
/-- each WINDS once, k of them: how many could; the day behind that -/
def zwo (τ : Nat → Nat → Nat) (K : Nat → Nat) : Nat → Nat → (Nat → Nat) → Nat → Nat × (Nat → Nat)
  | 0, _, ρ, up => (up, ρ)
  | k + 1, D, ρ, up => match zgp K D (τ 0 0) with
    | none => (up, ρ)
    | some w => if zcanW τ ρ w then zwo τ K k (D ||| 2 ^ w) (zunl ρ w) (up + 1) else zwo τ K k (D ||| 2 ^ w) ρ up
/-- PIECES that lie in all -/
def zall (τ : Nat → Nat → Nat) (ρ : Nat → Nat) : Nat := zsum (fun m => ρ (14 + m)) 0 (τ 0 0)
theorem zall_unl (h7 : τ 0 0 ≤ 7) {m : Nat} (hm : m < τ 0 0) (hn : ρ (14 + m) ≠ 0) : zall τ (zunl ρ m) + 1 = zall τ ρ := by
  have := zsum_delta (c := 1) (j0 := m) (i := 0) (k := τ 0 0)
  rw [if_pos ⟨Nat.zero_le _, by omega⟩] at this
  unfold zall
  rw [← this, ← zsum_add]
  refine zsum_congr fun j _ hj => ?_
  by_cases e : j = m
  · subst e; rw [zunl_n (by omega), if_pos rfl]; omega
  · rw [zunl_k (by omega) (by omega) (by omega), if_neg e]; rfl
theorem zwo_ok (hW : zTW τ Λ) (K : Nat → Nat) : ∀ (k D up b : Nat) (ρ : Nat → Nat), zDW τ ρ → zRb b ρ → zDW τ (zwo τ K k D ρ up).2 ∧ zRb b (zwo τ K k D ρ up).2 ∧ zall τ (zwo τ K k D ρ up).2 + (zwo τ K k D ρ up).1 = zall τ ρ + up ∧ (zwo τ K k D ρ up).2 28 = ρ 28 := by
  have h7 := hW.1.1
  intro k
  induction k with
  | zero => intro D up b ρ hD hB; exact ⟨hD, hB, rfl, rfl⟩
  | succ k ih =>
    intro D up b ρ hD hB
    simp only [zwo]
    cases hz : zgp K D (τ 0 0) with
    | none => exact ⟨hD, hB, rfl, rfl⟩
    | some w =>
      have hw := zgp_some hz
      simp only
      by_cases hc : zcanW τ ρ w
      · rw [if_pos hc]
        obtain ⟨a1, a2, a3, a4⟩ := ih (D ||| 2 ^ w) (up + 1) b (zunl ρ w) (zDW_unl hW hD hw.1 hc.1 hc.2.1) (zRb_unl hB hD hW hw.1 hc.1 hc.2.1)
        have := zall_unl (ρ := ρ) h7 hw.1 hc.2.1
        exact ⟨a1, a2, by omega, by rw [a4, zunl_hi (by omega) (by decide)]⟩
      · rw [if_neg hc]
        exact ih (D ||| 2 ^ w) up b ρ hD hB
/-- for whom a man comes first -/
def zky (τ : Nat → Nat → Nat) (rule : Nat) (ρ : Nat → Nat) (g m : Nat) : Nat :=
  if rule = 1 then ρ (14 + m) else if rule = 2 then τ 9 m - ρ (14 + m) else if rule = 3 then (if ρ (14 + m) = 0 then 0 else ρ (450 + (60 * m + (ρ (14 + m) - 1))) + 1) else if rule = 4 then (zlotv (nI (τ 0 3)) (nI (2000 + 8 * (ρ 28 + g) + m)) 1000).toNatClampNeg else 0
theorem zlot1000 (s w : Int32) : zlotv s w 1000 = nI (zlotv s w 1000).toNatClampNeg ∧ (zlotv s w 1000).toNatClampNeg < 1000 := by
  obtain ⟨k, h1, h2⟩ := zlotv_b s w (n := 1000) (by decide) (by decide)
  have h2 : zlotv s w 1000 = nI k := h2
  rw [h2, zclm (by omega)]; exact ⟨rfl, h1⟩
theorem zky_lt (hW : zTW τ Λ) (hD : zDW τ ρ) (hB : zRB ρ) {rule g m : Nat} (hm : m < τ 0 0) : zky τ rule ρ g m < 1000000001 := by
  have h7 := hW.1.1
  have h60 := (hD.h hW).2 m hm
  have l60 := (hW.2.1 m hm).2.2.2.2.1
  have hl := (zlot1000 (nI (τ 0 3)) (nI (2000 + 8 * (ρ 28 + g) + m))).2
  unfold zky
  (repeat' split)
  · omega
  · omega
  · omega
  · have := hB (450 + (60 * m + (ρ (14 + m) - 1))) (by omega); omega
  · omega
  · omega
/-- minute by minute, at most f of them -/
def zev (τ : Nat → Nat → Nat) (rule : Nat) : Nat → (Nat → Nat) → Nat → Nat → (Nat → Nat) × Nat × Nat
  | 0, ρ, g, w => (ρ, g, w)
  | f + 1, ρ, g, w => if (zwo τ (zky τ rule ρ g) (τ 0 0) 0 ρ 0).1 = 0 then ((zwo τ (zky τ rule ρ g) (τ 0 0) 0 ρ 0).2, g, w) else zev τ rule f (zwo τ (zky τ rule ρ g) (τ 0 0) 0 ρ 0).2 (g + 1) (w + (zwo τ (zky τ rule ρ g) (τ 0 0) 0 ρ 0).1)
theorem zev_ok (hW : zTW τ Λ) (rule : Nat) : ∀ (f g w b : Nat) (ρ : Nat → Nat), zDW τ ρ → zRb b ρ → zDW τ (zev τ rule f ρ g w).1 ∧ zRb b (zev τ rule f ρ g w).1 ∧ (zev τ rule f ρ g w).2.1 ≤ g + f ∧ (zev τ rule f ρ g w).2.2 ≤ w + zall τ ρ := by
  intro f
  induction f with
  | zero => intro g w b ρ hD hB; exact ⟨hD, hB, Nat.le_refl _, Nat.le_add_right _ _⟩
  | succ f ih =>
    intro g w b ρ hD hB
    obtain ⟨a1, a2, a3, a4⟩ := zwo_ok hW (zky τ rule ρ g) (τ 0 0) 0 0 b ρ hD hB
    simp only [zev]
    by_cases q : (zwo τ (zky τ rule ρ g) (τ 0 0) 0 ρ 0).1 = 0
    · rw [if_pos q]; exact ⟨a1, a2, by dsimp only; omega, by dsimp only; omega⟩
    · rw [if_neg q]
      obtain ⟨b1, b2, b3, b4⟩ := ih (g + 1) (w + (zwo τ (zky τ rule ρ g) (τ 0 0) 0 ρ 0).1) b _ a1 a2
      exact ⟨b1, b2, by omega, by omega⟩
-- the class
def zfe (I I' : zI) : Prop := ∀ a, ¬ (57 ≤ a ∧ a ≤ 66) → a ≠ 413 → a ≠ 414 → I' a = I a
theorem zfe.rf : zfe I I := fun _ _ _ _ => rfl
theorem zfe.tr {I'' : zI} (h1 : zfe I I') (h2 : zfe I' I'') : zfe I I'' := fun a p q r => (h2 a p q r).trans (h1 a p q r)
theorem zfd.e (h : zfd 57 I I') : zfe I I' := fun a p _ _ => h.1 a p
theorem zCT.e (h : zCT I t τ Λ) (hf : zfe I I') (ht : t = 3 ∨ t = 30) : zCT I' t τ Λ := h.same fun a h1 h2 _ _ => hf a (by omega) (by omega) (by omega)
theorem zSx.e (h : zSx I) (hf : zfe I I') : zSx I' := h.same (hf _ (by decide) (by decide) (by decide)) (hf _ (by decide) (by decide) (by decide))
theorem zCE.fd {d1 : Nat} (h : zCE I d1 τ ρ) {ρ' : Nat → Nat} (hf : zfd d1 I I') (hC : zCD I' d1 τ ρ') (h28 : ρ' 28 = ρ 28) : zCE I' d1 τ ρ' := ⟨hC, by rw [hf.2.1, h28]; exact h.2.1, by rw [hf.2.2]; exact h.2.2⟩
theorem C_greatest (hL : zLY Z t u) (h7 : τ 0 0 ≤ 7) (hT : I t 2 = nI (τ 0 0)) {K : Nat → Nat} {D : Nat} (hD : D < 128) (hK : ∀ m, m < τ 0 0 → I 414 m = nI (K m) ∧ K m < 1000000001) {w : Nat} (hw : zgp K D (τ 0 0) = some w) : zE (d + 1) kX1_greatest 0 [some (.ref 413), some (.ref t), some (.int (nI D)), none, none, none] [] Z I J (some (.int (nI w)), Z, I, J) := by
  have loop : ∀ m, m ≤ τ 0 0 → zE (d + 1) kX1_greatest 8 [some (.ref 413), some (.ref t), some (.int (nI D)), some (.int (match zgp K D m with | none => 0 | some w => nI w)), some (.int (match zgp K D m with | none => -1 | some w => nI (K w))), some (.int (nI m))] [] Z I J (some (.int (nI w)), Z, I, J) := by
    refine zloop _ _ ?_ ?_
    · refine BX1_greatest_8 _ _ _ _ hL (ly_tx hL) ⟨fun _ => by rw [hw], fun q => absurd (by rw [hT]; exact Int32.le_refl _) q⟩
    · intro m hm ih
      obtain ⟨k1, k2⟩ := hK m hm
      have a4 : zat I 414 7 (nI m) = nI (K m) := by rw [zatI (by omega) (by decide), k1]
      have hbt := zb_bit0 (m := m) hD (by omega)
      simp only [zgp] at ih
      refine BX1_greatest_8 _ _ _ _ hL (ly_tx hL) ⟨fun q => ?_, fun _ => ⟨fun q => ?_, fun q => ⟨fun q2 => ?_, fun q2 => ?_⟩⟩⟩
      · exfalso; rw [hT, zle' (by omega) (by omega)] at q; omega
      all_goals rw [hbt] at q
      · rw [if_pos (by simpa using q)] at ih; rw [zadd1]; exact ih
      all_goals rw [if_neg (by simpa using q)] at ih
      all_goals rw [a4] at q2
      all_goals rw [zadd1]
      · cases hz : zgp K D m with
        | none =>
          rw [hz] at q2
          have q2 : nI (K m) ≤ -1 := q2
          exact absurd (Int32.le_trans (znn (by omega)) q2) (by decide)
        | some w' =>
          have hb := zgp_some hz
          have := (hK w' (by omega)).2
          rw [hz] at q2 ih
          simp only at q2 ih ⊢
          rw [zle' (by omega) (by omega)] at q2
          rw [if_neg (by omega)] at ih
          exact ih
      · rw [a4]
        cases hz : zgp K D m with
        | none => rw [hz] at ih; exact ih
        | some w' =>
          have hb := zgp_some hz
          have := (hK w' (by omega)).2
          rw [hz] at q2 ih
          simp only at q2 ih ⊢
          rw [zle' (by omega) (by omega)] at q2
          rw [if_pos (by omega)] at ih
          exact ih
  exact BX1_greatest_0 _ hL (ly_tx hL) (loop 0 (Nat.zero_le _))
theorem C_windOnce_loop (hL : zLY Z t u) (ht3 : t = 3 ∨ t = 30) (hW : zTW τ Λ) {K : Nat → Nat} : ∀ (k i D up b : Nat) (I : zI) (ρ : Nat → Nat), i + k = τ 0 0 → zcd D (τ 0 0) + k = τ 0 0 → D < 128 → b < 900000000 → (∀ m, m < τ 0 0 → I 414 m = nI (K m) ∧ K m < 1000000001) → zSx I → zCT I t τ Λ → zCE I 57 τ ρ → zDW τ ρ → zRb b ρ →
    ∃ I', zE (d + 4) kX1_windOnce 8 [some (.ref 413), some (.ref t), some (.ref 57), some (.int (nI up)), some (.int (nI D)), some (.int (nI i)), none] [] Z I J (some (.int (nI (zwo τ K k D ρ up).1)), Z, I', J) ∧ zCE I' 57 τ (zwo τ K k D ρ up).2 ∧ zfd 57 I I' := by
  have h7 := hW.1.1
  intro k
  induction k with
  | zero =>
    intro i D up b I ρ hik hcd hD128 hb hK hS hT hC hD hB
    refine ⟨I, BX1_windOnce_8 _ _ _ hL (ly_tx hL) (ly_d57 hL) ⟨fun _ => rfl, fun q => ?_⟩, hC, zfd.rf⟩
    exfalso; apply q; rw [hT.1.1, zle' (by omega) (by omega)]; omega
  | succ k ih =>
    intro i D up b I ρ hik hcd hD128 hb hK hS hT hC hD hB
    have hno : ¬ I t 2 ≤ nI i := by rw [hT.1.1, zle' (by omega) (by omega)]; omega
    simp only [zwo]
    cases hz : zgp K D (τ 0 0) with
    | none => have := zcd_full (zgp_none hz); omega
    | some w =>
      have hw := zgp_some hz
      have hset := zcd_set hw.1 hw.2
      simp only
      have ht := C_takeUp (d := d) (J := J) hL (ly_d57 hL) hS (by decide) hW hC.1 hD (hB.b (by omega)) hw.1
      by_cases hc : zcanW τ ρ w
      · rw [if_pos hc]
        obtain ⟨I4, g1, g2, g3⟩ := ht.1 hc
        have e4 : I4 414 = I 414 := g3.1 414 (by decide)
        obtain ⟨I', k1, k2, k3⟩ := ih (i + 1) (D ||| 2 ^ w) (up + 1) b I4 (zunl ρ w) (by omega) (by omega) (zb_lt hD128 (zb_p w (by omega))) hb (fun m hm => by rw [e4]; exact hK m hm) (hS.fd (by decide) g3) (hT.same fun a h1 h2 _ _ => g3.1 a (by omega)) (hC.fd g3 g2 (zunl_hi (by omega) (by decide))) (zDW_unl hW hD hw.1 hc.1 hc.2.1) (zRb_unl hB hD hW hw.1 hc.1 hc.2.1)
        refine ⟨I', BX1_windOnce_8 _ _ _ hL (ly_tx hL) (ly_d57 hL) ⟨fun q => absurd q hno, fun _ => ⟨_, C_greatest hL h7 hT.1.1 hD128 hK hz, fun y ey => ⟨1, I4, g1, fun q => absurd q (by decide), fun _ => ?_⟩⟩⟩, k2, g3.tr k3⟩
        rw [zb_set hD128 (by omega)] at ey
        rw [ey, zadd1, zadd1]; exact k1
      · rw [if_neg hc]
        obtain ⟨I', k1, k2, k3⟩ := ih (i + 1) (D ||| 2 ^ w) up b I ρ (by omega) (by omega) (zb_lt hD128 (zb_p w (by omega))) hb hK hS hT hC hD hB
        refine ⟨I', BX1_windOnce_8 _ _ _ hL (ly_tx hL) (ly_d57 hL) ⟨fun q => absurd q hno, fun _ => ⟨_, C_greatest hL h7 hT.1.1 hD128 hK hz, fun y ey => ⟨0, I, ht.2 hc, fun _ => ?_, fun q => absurd rfl q⟩⟩⟩, k2, k3⟩
        rw [zb_set hD128 (by omega)] at ey
        rw [ey, zadd1, Int32.add_zero]; exact k1
theorem C_wishOf (hL : zLY Z t u) (hW : zTW τ Λ) (hT : zCT I t τ Λ) (hC : zCE I 57 τ ρ) (hD : zDW τ ρ) (hB : zRB ρ) {rule g m : Nat} (hr : rule < 5) (hg : I 413 0 = nI g) (hm : m < τ 0 0) : zE (d + 2) kX1_wishOf 0 [some (.ref 413), some (.ref t), some (.ref 57), some (.int (nI rule)), some (.int (nI m))] [] Z I J (some (.int (nI (zky τ rule ρ g m))), Z, I, J) := by
  have hH := hD.h hW
  have h7 := hH.1
  have h60 := hH.2 m hm
  have hti : (nI rule).toInt = (rule : Int) := Int32.toInt_ofNat_of_lt (show rule < 2 ^ 31 by omega)
  have ne : ∀ k, k < 5 → rule ≠ k → ¬ nI rule = nI k := fun k hk e z => e ((zeq (by omega) (by omega)).mp z)
  have n1 : rule ≠ 1 → ¬ nI rule = 1 := ne 1 (by decide)
  have n2 : rule ≠ 2 → ¬ nI rule = 2 := ne 2 (by decide)
  have n3 : rule ≠ 3 → ¬ nI rule = 3 := ne 3 (by decide)
  have n4 : rule ≠ 4 → ¬ nI rule = 4 := ne 4 (by decide)
  have a3 : zat I (57 + 3) 7 (nI m) = nI (ρ (14 + m)) := by rw [zatI (by omega) (by decide), (hC.1.2.1 m hm).2.2.1]
  refine BX1_wishOf_0 _ _ hL (ly_tx hL) (ly_d57 hL) ⟨fun q => ?_, fun q => ?_, fun q => ?_, fun q => ?_, fun q => ?_⟩
  · have : zky τ rule ρ g m = 0 := by unfold zky; rw [if_neg (by omega), if_neg (by omega), if_neg (by omega), if_neg (by omega)]
    rw [this]; rfl
  · have e : rule = 1 := Classical.byContradiction fun z => n1 z q
    rw [a3]; unfold zky; rw [if_pos e]
  · have e : rule = 2 := Classical.byContradiction fun z => n2 z q
    refine ⟨_, C_left (ly_d57 hL) (ly_tx hL) hW hT hC.1 hm (hD.man hm).2.2.1, ?_⟩
    unfold zky; rw [if_neg (by omega), if_pos e]
  · have e : rule = 3 := Classical.byContradiction fun z => n3 z q
    refine ⟨_, C_lastOf (ly_d57 hL) hH hC.1 hm, ?_⟩
    unfold zky; rw [if_neg (by omega), if_neg (by omega), if_pos e]
    by_cases h0 : ρ (14 + m) = 0
    · rw [if_pos h0, if_pos h0, zatI (by omega) (by decide), hC.2.2]; rfl
    · rw [if_neg h0, if_neg h0]
      have hv := zlive_mk (ρ := ρ) hH hm (i := ρ (14 + m) - 1) (by omega)
      obtain ⟨-, -, e8, -⟩ := hC.1.2.2.1 _ hv
      rw [zatI (by omega) (by decide), e8]
  · have e : rule = 4 := Classical.byContradiction fun z => n4 z q
    refine ⟨_, S_lot (by decide), ?_⟩
    unfold zky; rw [if_neg (by omega), if_neg (by omega), if_neg (by omega), if_pos e]
    have ew : ((2000 : Int32) + ((8 : Int32) * (I 57 0 + I 413 0))) + nI m = nI (2000 + 8 * (ρ 28 + g) + m) := by
      rw [hC.2.1, hg, zadd, show (8 : Int32) = nI 8 from rfl, zmul, show (2000 : Int32) = nI 2000 from rfl, zadd, zadd]
    rw [hT.1.2.2.2.1, ew, ← (zlot1000 _ _).1]
theorem C_pass_loop (hL : zLY Z t u) (ht3 : t = 3 ∨ t = 30) (hW : zTW τ Λ) {rule : Nat} (hr : rule < 5) : ∀ (f i g w b : Nat) (I : zI) (ρ : Nat → Nat), i + f = 421 → zall τ ρ < f → b < 900000000 → I 413 0 = nI g → I 413 1 = nI w → zSx I → zCT I t τ Λ → zCE I 57 τ ρ → zDW τ ρ → zRb b ρ →
    ∃ I', zE (d + 5) kX1_pass 21 [some (.ref 413), some (.ref t), none, some (.ref 57), some (.int (nI rule)), some (.int 1), some (.int (nI i)), none] [] Z I J (none, Z, I', J) ∧ zCE I' 57 τ (zev τ rule f ρ g w).1 ∧ I' 413 0 = nI (zev τ rule f ρ g w).2.1 ∧ I' 413 1 = nI (zev τ rule f ρ g w).2.2 ∧ zfe I I' := by
  have h7 := hW.1.1
  intro f
  induction f with
  | zero => intro i g w b I ρ hi ha; omega
  | succ f ih =>
    intro i g w b I ρ hi ha hb hg hw hS hT hC hD hB
    have hlim : ¬ (420 : Int32) < nI i := by rw [show (420 : Int32) = nI 420 from rfl, zlt (by decide) (by omega)]; omega
    obtain ⟨K, hK⟩ : ∃ K : Nat → Nat, K = zky τ rule ρ g := ⟨_, rfl⟩
    have kl : ∀ m, m < τ 0 0 → K m < 1000000001 := fun m hm => by rw [hK]; exact zky_lt hW hD (hB.b (by omega)) hm
    obtain ⟨a1, a2, a3, a4⟩ := zwo_ok hW K (τ 0 0) 0 0 b ρ hD hB
    -- what stands behind the wishes
    have key : ∀ I2 : zI, (∀ a, a ≠ 414 → I2 a = I a) → (∀ j, j < τ 0 0 → I2 414 j = nI (K j)) → ∃ I', zE (d + 5) kX1_pass 37 [some (.ref 413), some (.ref t), none, some (.ref 57), some (.int (nI rule)), none, some (.int (nI i)), some (.int (nI (τ 0 0)))] [] Z I2 J (none, Z, I', J) ∧ zCE I' 57 τ (zev τ rule (f + 1) ρ g w).1 ∧ I' 413 0 = nI (zev τ rule (f + 1) ρ g w).2.1 ∧ I' 413 1 = nI (zev τ rule (f + 1) ρ g w).2.2 ∧ zfe I I' := by
      intro I2 f1 f2
      have hC2 : zCE I2 57 τ ρ := hC.same fun a h1 h2 => f1 a (by omega)
      have hT2 : zCT I2 t τ Λ := hT.same fun a h1 h2 _ _ => f1 a (by omega)
      have hS2 : zSx I2 := hS.same (f1 _ (by decide)) (f1 _ (by decide))
      have hfe : zfe I I2 := fun a _ _ h3 => f1 a h3
      obtain ⟨I3, g1, g2, g3⟩ := C_windOnce_loop (d := d) (J := J) (K := K) hL ht3 hW (τ 0 0) 0 0 0 b I2 ρ (by omega) (by have : zcd 0 (τ 0 0) = 0 := zsum_0 (fun _ _ _ => by simp); omega) (by decide) hb (fun m hm => ⟨f2 m hm, kl m hm⟩) hS2 hT2 hC2 hD hB
      have hrun := BX1_windOnce_0 hL (ly_tx hL) (ly_d57 hL) g1
      have e413 : I3 413 = I 413 := (g3.1 413 (by decide)).trans (f1 413 (by decide))
      have hT3 : I2 t 2 ≤ nI (τ 0 0) := by rw [hT2.1.1]; exact Int32.le_refl _
      have al : zall τ ρ ≤ 420 := by omega
      simp only [zev]
      rw [← hK]
      generalize hr' : zwo τ K (τ 0 0) 0 ρ 0 = R at a1 a2 a3 a4 g2 hrun
      by_cases q : R.1 = 0
      · rw [if_pos q]
        refine ⟨zu (zu I3 413 0 (nI g)) 413 1 (nI w), BX1_pass_37 _ _ _ hL (ly_tx hL) (ly_d57 hL) ⟨fun _ => ⟨nI R.1, I3, hrun, fun _ I4 e4 I5 e5 => ?_, fun z => ?_⟩, fun z => absurd hT3 z⟩, g2.same fun a h1 h2 => by rw [zu_ne (by omega), zu_ne (by omega)], ?_, ?_, ?_⟩
        · rw [e413, hg, Int32.add_zero] at e4
          rw [e4, zu_k (by decide), e413, hw, q, show nI 0 = (0 : Int32) from rfl, Int32.add_zero] at e5
          rw [e5]
          rw [zadd1]
          exact BX1_pass_21 _ _ _ hL (ly_tx hL) (ly_d57 hL) ⟨fun _ => rfl, fun _ => ⟨fun _ => rfl, fun z => absurd rfl z⟩⟩
        · exfalso; rw [q] at z; exact z (by decide)
        · rw [zu_k (by decide), zu_eq]
        · rw [zu_eq]
        · intro a h1 h2 h3
          rw [zu_ne h2, zu_ne h2, g3.1 a h1, f1 a h3]
      · rw [if_neg q]
        have e5f : ∀ a, a ≠ 413 → zu (zu I3 413 0 (nI (g + 1))) 413 1 (nI (w + R.1)) a = I3 a := fun a ha => by rw [zu_ne ha, zu_ne ha]
        obtain ⟨I', k1, k2, k3, k4, k5⟩ := ih (i + 1) (g + 1) (w + R.1) b (zu (zu I3 413 0 (nI (g + 1))) 413 1 (nI (w + R.1))) R.2 (by omega) (by omega) hb (by rw [zu_k (by decide), zu_eq]) (by rw [zu_eq]) ((hS2.fd (by decide) g3).same (e5f _ (by decide)) (e5f _ (by decide))) (hT2.same fun a h1 h2 _ _ => by rw [e5f a (by omega), g3.1 a (by omega)]) (g2.same fun a h1 h2 => e5f a (by omega)) a1 a2
        refine ⟨I', BX1_pass_37 _ _ _ hL (ly_tx hL) (ly_d57 hL) ⟨fun _ => ⟨nI R.1, I3, hrun, fun z => ?_, fun _ I5 e5 I6 e6 => ?_⟩, fun z => absurd hT3 z⟩, k2, k3, k4, ?_⟩
        · exfalso; rw [show (0 : Int32) = nI 0 from rfl, zle' (by omega) (by decide)] at z; omega
        · rw [e413, hg, zadd1] at e5
          rw [e5, zu_k (by decide), e413, hw, zadd] at e6
          rw [e6, zadd1]; exact k1
        · intro a h1 h2 h3
          rw [k5 a h1 h2 h3, e5f a h2, g3.1 a h1, f1 a h3]
    have det : ∀ m, m ≤ τ 0 0 → ∀ (I1 : zI), (∀ a, a ≠ 414 → I1 a = I a) → (∀ j, j < m → I1 414 j = nI (K j)) → ∃ I', zE (d + 5) kX1_pass 37 [some (.ref 413), some (.ref t), none, some (.ref 57), some (.int (nI rule)), none, some (.int (nI i)), some (.int (nI m))] [] Z I1 J (none, Z, I', J) ∧ zCE I' 57 τ (zev τ rule (f + 1) ρ g w).1 ∧ I' 413 0 = nI (zev τ rule (f + 1) ρ g w).2.1 ∧ I' 413 1 = nI (zev τ rule (f + 1) ρ g w).2.2 ∧ zfe I I' := by
      refine zloop _ _ ?_ ?_
      · intro I1 f1 f2; exact key I1 f1 f2
      · intro m hm ihm I1 f1 f2
        have hC1 : zCE I1 57 τ ρ := hC.same fun a h1 h2 => f1 a (by omega)
        have hT1 : zCT I1 t τ Λ := hT.same fun a h1 h2 _ _ => f1 a (by omega)
        obtain ⟨I', j1, j2⟩ := ihm (zu I1 414 m (nI (K m))) (fun a ha => by rw [zu_ne ha]; exact f1 a ha) (fun j hj => by
          by_cases e : j = m
          · rw [e, zu_eq]
          · rw [zu_k e]; exact f2 j (by omega))
        refine ⟨I', BX1_pass_37 _ _ _ hL (ly_tx hL) (ly_d57 hL) ⟨fun q => ?_, fun _ => ⟨nI (K m), by rw [hK]; exact C_wishOf hL hW hT1 hC1 hD (hB.b (by omega)) hr (by rw [f1 413 (by decide)]; exact hg) hm, fun I8 e8 => ?_⟩⟩, j2⟩
        · exfalso; rw [hT1.1.1, zle' (by omega) (by omega)] at q; omega
        · rw [zptI (by omega) (by decide)] at e8
          rw [e8, zadd1]; exact j1
    obtain ⟨I', j1, j2⟩ := det 0 (Nat.zero_le _) I (fun _ _ => rfl) (fun j hj => absurd hj (by omega))
    exact ⟨I', BX1_pass_21 _ _ _ hL (ly_tx hL) (ly_d57 hL) ⟨fun q => absurd q hlim, fun _ => ⟨fun q => absurd q (by decide), fun _ => j1⟩⟩, j2⟩
end
