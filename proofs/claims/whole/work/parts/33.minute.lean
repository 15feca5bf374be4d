/-! what a man would do; a minute, on both sides -/
section
variable {d : Nat} {Z : zZ} {J : zJ} {t u : Nat} {τ : Nat → Nat → Nat} {Λ : Nat → Option zLaw} {ρ : Nat → Nat}
/-- a rest by 6 is not above 0 below 0 -/
theorem zrem6n {v : Int32} (h : ¬ 0 ≤ v) : ¬ 0 < v - v / 6 * 6 := by
  have h1 : v.toInt < 0 := by
    have := Int32.not_le.mp h
    rw [Int32.lt_iff_toInt_lt] at this; simpa using this
  obtain ⟨n, hn⟩ : ∃ n : Nat, v.toInt = -(n : Int) := ⟨v.toInt.natAbs, by omega⟩
  have hlow := Int32.le_toInt v
  have e1 : (v / 6).toInt = -((n / 6 : Nat) : Int) := by
    rw [Int32.toInt_div_of_ne_right _ _ (by decide), hn, show (6 : Int32).toInt = ((6 : Nat) : Int) by decide, Int.neg_tdiv]
    rfl
  have e2 : (v / 6 * 6).toInt = -((n / 6 * 6 : Nat) : Int) := by
    rw [Int32.toInt_mul, e1, show (6 : Int32).toInt = 6 by decide, Int.bmod_eq_of_le (by omega) (by omega)]
    omega
  rw [Int32.lt_iff_toInt_lt, Int32.toInt_sub, e2, hn, Int.bmod_eq_of_le (by omega) (by omega)]
  simp only [Int32.toInt_zero]
  omega
theorem zrem6 {j : Nat} (hj : j < 2147483648) : nI j - nI j / 6 * 6 = nI (j % 6) := by
  rw [show (6 : Int32) = nI 6 from rfl]; exact zrem hj (by decide) (by decide)
/-- what he would do at a minute, if he is not LOST -/
def zwn (τ : Nat → Nat → Nat) (Λ : Nat → Option zLaw) (ρ : Nat → Nat) (m mi : Nat) : Nat := (zgov (Λ m) (nI (ρ m)) (nI (ρ (7 + m))) (nI mi) (nI (τ 9 m - ρ (14 + m))) (zlotv (nI (τ 0 3)) (nI (8 * mi + m)) 100) (nI m)).toNatClampNeg
theorem zgov_b (o : Option zLaw) (x y mi le lo ra : Int32) : ∃ k, k ≤ 5 ∧ zgov o x y mi le lo ra = nI k := by
  unfold zgov
  split
  · rename_i h
    obtain ⟨j, hj, e⟩ := znI_ex _ (Int32.not_lt.mpr h)
    rw [e, zrem6 hj]
    exact ⟨j % 6, by omega, rfl⟩
  · exact ⟨0, by decide, rfl⟩
theorem zwn_eq (m mi : Nat) : zgov (Λ m) (nI (ρ m)) (nI (ρ (7 + m))) (nI mi) (nI (τ 9 m - ρ (14 + m))) (zlotv (nI (τ 0 3)) (nI (8 * mi + m)) 100) (nI m) = nI (zwn τ Λ ρ m mi) ∧ zwn τ Λ ρ m mi ≤ 5 := by
  obtain ⟨k, h1, h2⟩ := zgov_b (Λ m) (nI (ρ m)) (nI (ρ (7 + m))) (nI mi) (nI (τ 9 m - ρ (14 + m))) (zlotv (nI (τ 0 3)) (nI (8 * mi + m)) 100) (nI m)
  have : zwn τ Λ ρ m mi = k := by unfold zwn; rw [h2, zclm (by omega)]
  rw [this]; exact ⟨h2, h1⟩
theorem S_lot {I : zI} {n s w : Int32} (h : 0 < n) : zE (d + 1) kX11_lot 0 [some (.int n), some (.int s), some (.int w), none] [] Z I J (some (.int (zlotv s w n)), Z, I, J) := by
  refine BX11_lot_0 _ _ _ (fun y e => ⟨fun q => absurd h (Int32.not_lt.mpr q), fun _ => ⟨?_, ?_⟩⟩)
  · rintro rfl; exact absurd h (by decide)
  · rw [e]; rfl
theorem C_goesAt {t1 : Nat} (ht : zTx Z t1) {I : zI} (hW : zTW τ Λ) (hT : zCT I t1 τ Λ) {m : Nat} (hm : m < τ 0 0) (x y le : Int32) {mi : Nat} :
    ∃ I', zfc [t1 + 4, t1 + 5] I I' ∧ zE (d + 2) kX6_goesAt 0 [some (.ref t1), some (.int (nI m)), some (.int x), some (.int y), some (.int (nI mi)), some (.int le), none, none] [] Z I J (some (.int (zgov (Λ m) x y (nI mi) le (zlotv (nI (τ 0 3)) (nI (8 * mi + m)) 100) (nI m))), Z, I', J) := by
  have h7 := hW.1.1
  obtain ⟨-, -, -, -, -, hl⟩ := hT.2.1 m hm
  have a8 : zat I (t1 + 8) 7 (nI m) = I (t1 + 8) m := zatI (by omega) (by decide)
  cases hw : Λ m with
  | none =>
    rw [hw] at hl
    have hl' : I (t1 + 8) m = -1 := hl
    refine ⟨I, zfc.rf, BX6_goesAt_0 _ _ _ _ _ ht ⟨fun q => absurd (a8.trans hl') q, fun _ => ?_⟩⟩
    have : zgov none x y (nI mi) le (zlotv (nI (τ 0 3)) (nI (8 * mi + m)) 100) (nI m) = 0 := by
      show (if (0 : Int32) ≤ 0 then (0 : Int32) - 0 / 6 * 6 else 0) = 0
      decide
    rw [this]
  | some w =>
    rw [hw] at hl
    obtain ⟨c, hc, hcl⟩ := hl
    have hc4 := zclw_le _ _ _ hcl
    have hwk := hW.2.2.2.2 m w (by omega) hw
    obtain ⟨I', h1, h2⟩ := C_value (d := d) (J := J) (zTx_l ht) hwk hcl x y (nI mi) le (zlotv (nI (τ 0 3)) (nI (8 * mi + m)) 100) (nI m)
    refine ⟨I', h1.mono (by simp), BX6_goesAt_0 _ _ _ _ _ ht ⟨fun _ => ⟨_, S_lot (by decide), ?_⟩, fun q => ?_⟩⟩
    · have e8 : ((8 : Int32) * nI mi) + nI m = nI (8 * mi + m) := by rw [show (8 : Int32) = nI 8 from rfl, zmul, zadd]
      rw [e8, hT.1.2.2.2.1, a8, hc]
      refine ⟨_, I', h2, ?_⟩
      generalize zlotv (nI (τ 0 3)) (nI (8 * mi + m)) 100 = lo
      have hz : zlo (zenv x y (nI mi) le lo (nI m)) (some w) = zlw (zenv x y (nI mi) le lo (nI m)) w := rfl
      unfold zgov
      rw [hz]
      generalize zlw (zenv x y (nI mi) le lo (nI m)) w = v
      by_cases h0 : 0 ≤ v
      · rw [if_pos h0]
        obtain ⟨j, hj, rfl⟩ := znI_ex _ (Int32.not_lt.mpr h0)
        rw [zrem6 hj]
        by_cases hz : j % 6 = 0
        · rw [hz]; rfl
        · rw [if_pos]
          rw [show (0 : Int32) = nI 0 from rfl, zlt (by decide) (by omega)]; omega
      · rw [if_neg h0, if_neg (zrem6n h0)]
    · rw [a8, hc] at q
      exact absurd q (fun z => by
        have : (0 : Int32) ≤ -1 := z ▸ znn (by omega)
        exact absurd this (by decide))
/-- what a move on a day with its wish writes -/
def zfa (d t : Nat) (I I' : zI) : Prop := (∀ a, ¬ (d ≤ a ∧ a ≤ d + 9) → a ≠ t + 4 → a ≠ t + 5 → I' a = I a) ∧ I' d 0 = I d 0 ∧ I' (d + 8) 0 = I (d + 8) 0
theorem zfa.rf {d t : Nat} {I : zI} : zfa d t I I := ⟨fun _ _ _ _ => rfl, rfl, rfl⟩
theorem zfa.tr {d t : Nat} {I I' I'' : zI} (h1 : zfa d t I I') (h2 : zfa d t I' I'') : zfa d t I I'' := ⟨fun a h h3 h4 => (h2.1 a h h3 h4).trans (h1.1 a h h3 h4), h2.2.1.trans h1.2.1, h2.2.2.trans h1.2.2⟩
theorem zfd.a {d t : Nat} {I I' : zI} (h : zfd d I I') : zfa d t I I' := ⟨fun a h1 _ _ => h.1 a h1, h.2.1, h.2.2⟩
theorem zfc.a {d t : Nat} {I I' : zI} (h : zfc [t + 4, t + 5] I I') (ht : t + 5 < d) : zfa d t I I' := ⟨fun a _ h2 h3 => h a (by simp; exact ⟨h2, h3⟩), by rw [h d (by simp; omega)], by rw [h (d + 8) (by simp; omega)]⟩
theorem zCT.a {I I' : zI} {d1 t1 : Nat} (h : zCT I t1 τ Λ) (hf : zfa d1 t1 I I') (hd : t1 + 16 < d1) : zCT I' t1 τ Λ := h.same fun a h1 h2 h3 h4 => hf.1 a (by omega) h3 h4
theorem zSx.a {I I' : zI} {d1 t1 : Nat} (h : zSx I) (hf : zfa d1 t1 I I') (hd : t1 + 16 < d1) (hx : d1 + 9 < 1000001) : zSx I' := h.same (hf.1 _ (by omega) (by omega) (by omega)) (hf.1 _ (by omega) (by omega) (by omega))
theorem C_wants {d1 t1 : Nat} (hd : zDy Z d1) (ht : zTx Z t1) {I : zI} (hW : zTW τ Λ) (hT : zCT I t1 τ Λ) (hC : zCD I d1 τ ρ) (hD : zDW τ ρ) {m : Nat} (hm : m < τ 0 0) {mi : Nat} :
    ∃ I', zfc [t1 + 4, t1 + 5] I I' ∧ zE (d + 3) kX0_wants 0 [some (.ref d1), some (.ref t1), some (.int (nI m)), some (.int (nI mi))] [] Z I J (some (.int (nI (if ρ (21 + m) = 0 then zwn τ Λ ρ m mi else 0))), Z, I', J) := by
  have h7 := hW.1.1
  obtain ⟨p1, p2, p3, p4, p5, p6⟩ := hD.man hm
  obtain ⟨g1, g2, g3, g4⟩ := hC.2.1 m hm
  have a4 : zat I (d1 + 4) 7 (nI m) = nI (ρ (21 + m)) := by rw [zatI (by omega) (by decide), g4]
  by_cases h0 : ρ (21 + m) = 0
  · obtain ⟨I', h1, h2⟩ := C_goesAt (d := d) (J := J) ht hW hT hm (nI (ρ m)) (nI (ρ (7 + m))) (nI (τ 9 m - ρ (14 + m))) (mi := mi)
    rw [(zwn_eq m mi).1] at h2
    refine ⟨I', h1, BX0_wants_0 _ _ hd ht ⟨fun _ => ⟨_, C_left hd ht hW hT hC hm p3, nI (zwn τ Λ ρ m mi), I', ?_, ?_⟩, fun q => ?_⟩⟩
    · rw [zatI (by omega) (by decide), zatI (by omega) (by decide), g1, g2]; exact h2
    · rw [if_pos h0]
    · rw [a4, h0] at q; exact absurd rfl q
  · refine ⟨I, zfc.rf, BX0_wants_0 _ _ hd ht ⟨fun q => ?_, fun q => by rw [if_neg h0]; rfl⟩⟩
    rw [a4, zn0 (by omega)] at q; exact absurd q h0
/-- the day behind what a man does at a minute -/
def zact (τ : Nat → Nat → Nat) (Λ : Nat → Option zLaw) (ρ : Nat → Nat) (m mi : Nat) : Nat → Nat :=
  if ρ (21 + m) = 0 then (if zwn τ Λ ρ m mi = 5 then (if zcanW τ ρ m then zunl ρ m else ρ) else if zwn τ Λ ρ m mi = 0 then ρ else if zcan τ ρ m (zwn τ Λ ρ m mi) then zlay ρ m (zwn τ Λ ρ m mi) else ρ) else ρ
theorem zact_0 {m mi : Nat} (h : zwn τ Λ ρ m mi = 0) : zact τ Λ ρ m mi = ρ := by
  unfold zact; rw [if_neg (by omega : ¬ zwn τ Λ ρ m mi = 5), if_pos h, ite_self]
theorem zact_l {m mi : Nat} (h : ¬ ρ (21 + m) = 0) : zact τ Λ ρ m mi = ρ := by
  unfold zact; rw [if_neg h]
theorem zact_5 {m mi : Nat} (h0 : ρ (21 + m) = 0) (h : zwn τ Λ ρ m mi = 5) : zact τ Λ ρ m mi = if zcanW τ ρ m then zunl ρ m else ρ := by
  unfold zact; rw [if_pos h0, if_pos h]
theorem zact_s {m mi : Nat} (h0 : ρ (21 + m) = 0) (h5 : zwn τ Λ ρ m mi ≠ 5) (h : zwn τ Λ ρ m mi ≠ 0) : zact τ Λ ρ m mi = if zcan τ ρ m (zwn τ Λ ρ m mi) then zlay ρ m (zwn τ Λ ρ m mi) else ρ := by
  unfold zact; rw [if_pos h0, if_neg h5, if_neg h]
theorem zDW_act (hW : zTW τ Λ) (hD : zDW τ ρ) {m mi : Nat} (hm : m < τ 0 0) : zDW τ (zact τ Λ ρ m mi) := by
  by_cases h0 : ρ (21 + m) = 0
  · by_cases h5 : zwn τ Λ ρ m mi = 5
    · rw [zact_5 h0 h5]
      split
      · rename_i hc; exact zDW_unl hW hD hm hc.1 hc.2.1
      · exact hD
    · by_cases h : zwn τ Λ ρ m mi = 0
      · rw [zact_0 h]; exact hD
      · rw [zact_s h0 h5 h]
        split
        · rename_i hc; exact zDW_lay hW hD hm (by omega) (by have := (zwn_eq (τ := τ) (Λ := Λ) (ρ := ρ) m mi).2; omega) hc
        · exact hD
  · rw [zact_l h0]; exact hD
/-- a bound of a row's numbers -/
def zK6 : Nat := 600000000
theorem zK6_v : zK6 = 600000000 := rfl
def zRb (b : Nat) (ρ : Nat → Nat) : Prop := 10000 ≤ b ∧ (∀ k, k < 1290 → k ≠ 28 → (k < 30 → ρ k ≤ b) ∧ (ρ k ≤ b ∨ ρ k ≤ zK6)) ∧ ρ 28 ≤ b
theorem zRb.b {b : Nat} (h : zRb b ρ) (hb : b < 1000000000) : zRB ρ := fun k hk => by
  by_cases e : k = 28
  · subst e; have := h.2.2; omega
  · have := h.2.1 k hk e; have := zK6_v; omega
theorem zRb.mono {b b' : Nat} (h : zRb b ρ) (hb : b ≤ b') : zRb b' ρ := ⟨by have := h.1; omega, fun k h1 h2 => by have := h.2.1 k h1 h2; omega, by have := h.2.2; omega⟩
theorem zRb_unl {b : Nat} (hB : zRb b ρ) (hD : zDW τ ρ) (hW : zTW τ Λ) {m : Nat} (hm : m < τ 0 0) (h0 : ρ (21 + m) = 0) (hn : ρ (14 + m) ≠ 0) : zRb b (zunl ρ m) := by
  have := (zDW_unl hW hD hm h0 hn).man hm
  have h7 := hW.1
  have hb := hB.1
  refine ⟨hb, fun k hk hk2 => ?_, by rw [zunl_hi (by omega) (by decide)]; exact hB.2.2⟩
  by_cases e1 : k = 7 + m
  · subst e1; have := this.2.1; omega
  · by_cases e2 : k = m
    · subst e2; have := this.1; omega
    · by_cases e3 : k = 14 + m
      · subst e3; rw [zunl_n (by omega)]; have := hB.2.1 (14 + m) (by omega) (by omega); omega
      · rw [zunl_k e1 e2 e3]; exact hB.2.1 k hk hk2
theorem zRb_lay {b : Nat} (hB : zRb b ρ) (hD : zDW τ ρ) (hW : zTW τ Λ) {m w : Nat} (hm : m < τ 0 0) (hw1 : 1 ≤ w) (hw4 : w ≤ 4) (hc : zcan τ ρ m w) : zRb (b + 1) (zlay ρ m w) := by
  have h7 := hW.1
  have hb := hB.1
  obtain ⟨c1, c2, c3, c4⟩ := hc
  have h29 := hB.2.1 29 (by decide) (by decide)
  obtain ⟨p1, p2, p3, p4, p5, p6⟩ := hD.man hm
  have hs : zsn (ρ m) (ρ (7 + m)) w < 288 := zsn_lt (by omega) (by omega) hw1 hw4
  refine ⟨by omega, fun k hk hk2 => ?_, by rw [zlay_28 (by omega)]; have := hB.2.2; omega⟩
  have h14 := hB.2.1 (14 + m) (by omega) (by omega)
  have h0 := hB.2.1 k hk hk2
  rw [zlay_i]
  (repeat' split) <;> omega
theorem zRb_act {b : Nat} (hB : zRb b ρ) (hD : zDW τ ρ) (hW : zTW τ Λ) {m mi : Nat} (hm : m < τ 0 0) : zRb (b + 1) (zact τ Λ ρ m mi) := by
  by_cases h0 : ρ (21 + m) = 0
  · by_cases h5 : zwn τ Λ ρ m mi = 5
    · rw [zact_5 h0 h5]
      split
      · rename_i hc; exact (zRb_unl hB hD hW hm hc.1 hc.2.1).mono (by omega)
      · exact hB.mono (by omega)
    · by_cases h : zwn τ Λ ρ m mi = 0
      · rw [zact_0 h]; exact hB.mono (by omega)
      · rw [zact_s h0 h5 h]
        split
        · rename_i hc; exact zRb_lay hB hD hW hm (by omega) (by have := (zwn_eq (τ := τ) (Λ := Λ) (ρ := ρ) m mi).2; omega) hc
        · exact hB.mono (by omega)
  · rw [zact_l h0]; exact hB.mono (by omega)
theorem zact_28 {m mi : Nat} (hm : m < 7) : zact τ Λ ρ m mi 28 = ρ 28 := by
  by_cases h0 : ρ (21 + m) = 0
  · by_cases h5 : zwn τ Λ ρ m mi = 5
    · rw [zact_5 h0 h5]
      split
      · exact zunl_hi hm (by decide)
      · rfl
    · by_cases h : zwn τ Λ ρ m mi = 0
      · rw [zact_0 h]
      · rw [zact_s h0 h5 h]
        split
        · exact zlay_28 hm
        · rfl
  · rw [zact_l h0]
theorem C_act (hL : zLY Z t u) {d1 t1 : Nat} (hd : zDy Z d1) (ht : zTx Z t1) (hx : d1 + 9 < 1000001) (htd : t1 + 16 < d1) {I : zI} (hS : zSx I) (hW : zTW τ Λ) (hT : zCT I t1 τ Λ) (hC : zCD I d1 τ ρ) (hD : zDW τ ρ) (hB : zRB ρ) {m : Nat} (hm : m < τ 0 0) {mi : Nat} :
    ∃ I', zE (d + 4) kX0_act 0 [some (.ref d1), some (.ref t1), some (.int (nI m)), some (.int (nI mi)), none] [] Z I J (none, Z, I', J) ∧ zCD I' d1 τ (zact τ Λ ρ m mi) ∧ zfa d1 t1 I I' := by
  have h7 := hW.1.1
  obtain ⟨I1, h1, h2⟩ := C_wants (d := d) (J := J) hd ht hW hT hC hD hm (mi := mi)
  have hf1 := h1.a (d := d1) (by omega)
  have hT1 := hT.a hf1 htd
  have hS1 := hS.a hf1 htd hx
  have hC1 : zCD I1 d1 τ ρ := hC.same fun a g1 g2 => h1 a (by simp; omega)
  have hb5 := (zwn_eq (τ := τ) (Λ := Λ) (ρ := ρ) m mi).2
  by_cases h0 : ρ (21 + m) = 0
  · rw [if_pos h0] at h2
    by_cases h5 : zwn τ Λ ρ m mi = 5
    · have ht := C_takeUp (d := d) (J := J) hL hd hS1 hx hW hC1 hD hB hm
      rw [zact_5 h0 h5]
      by_cases hc : zcanW τ ρ m
      · obtain ⟨I5, k1, k2, k3⟩ := ht.1 hc
        rw [if_pos hc]
        refine ⟨I5, BX0_act_0 _ _ hd ‹zTx Z t1› ⟨_, I1, h2, fun q => ?_, fun _ => ⟨1, I5, k1, rfl⟩⟩, k2, hf1.tr k3.a⟩
        rw [h5] at q; exact absurd rfl q
      · rw [if_neg hc]
        refine ⟨I1, BX0_act_0 _ _ hd ‹zTx Z t1› ⟨_, I1, h2, fun q => ?_, fun _ => ⟨0, I1, ht.2 hc, rfl⟩⟩, hC1, hf1⟩
        rw [h5] at q; exact absurd rfl q
    · by_cases h : zwn τ Λ ρ m mi = 0
      · rw [zact_0 h]
        refine ⟨I1, BX0_act_0 _ _ hd ht ⟨_, I1, h2, fun _ => ⟨fun _ => rfl, fun q => ?_⟩, fun q => ?_⟩, hC1, hf1⟩
        · rw [h] at q; exact absurd (by decide) q
        · rw [h] at q; exact absurd q (by decide)
      · rw [zact_s h0 h5 h]
        have hl := C_lay (d := d) (J := J) hL hd ht hS1 hx hW hT1 hC1 hD hB hm (w := zwn τ Λ ρ m mi) (by omega) (by omega)
        have hn5 : ¬ nI (zwn τ Λ ρ m mi) = 5 := by rw [show (5 : Int32) = nI 5 from rfl, zeq (by omega) (by decide)]; exact h5
        have hn0 : ¬ nI (zwn τ Λ ρ m mi) ≤ 0 := by rw [show (0 : Int32) = nI 0 from rfl, zle' (by omega) (by decide)]; omega
        by_cases hc : zcan τ ρ m (zwn τ Λ ρ m mi)
        · obtain ⟨I3, k1, k2, k3⟩ := hl.1 hc
          rw [if_pos hc]
          exact ⟨I3, BX0_act_0 _ _ hd ht ⟨_, I1, h2, fun _ => ⟨fun q => absurd q hn0, fun _ => ⟨I3, k1, rfl⟩⟩, fun q => absurd q hn5⟩, k2, hf1.tr k3.a⟩
        · rw [if_neg hc]
          exact ⟨I1, BX0_act_0 _ _ hd ht ⟨_, I1, h2, fun _ => ⟨fun q => absurd q hn0, fun _ => ⟨I1, hl.2 hc, rfl⟩⟩, fun q => absurd q hn5⟩, hC1, hf1⟩
  · rw [if_neg h0] at h2
    rw [zact_l h0]
    exact ⟨I1, BX0_act_0 _ _ hd ht ⟨_, I1, h2, fun _ => ⟨fun _ => rfl, fun q => absurd (by decide) q⟩, fun q => absurd q (by decide)⟩, hC1, hf1⟩
/-- MAN by MAN, from i on, k of them; λ: when each starts -/
def zgo (τ : Nat → Nat → Nat) (Λ : Nat → Option zLaw) (lm : Nat → Nat) : Nat → Nat → (Nat → Nat) → Nat → Nat
  | 0, _, ρ => ρ
  | k + 1, i, ρ => zgo τ Λ lm k (i + 1) (if ρ 28 < lm i then ρ else zact τ Λ ρ i (ρ 28 - lm i))
/-- the day behind a minute -/
def zmi (τ : Nat → Nat → Nat) (Λ : Nat → Option zLaw) (lm : Nat → Nat) (ρ : Nat → Nat) : Nat → Nat := zup (zgo τ Λ lm (τ 0 0) 0 ρ) 28 (zgo τ Λ lm (τ 0 0) 0 ρ 28 + 1)
theorem zDW_28 (hD : zDW τ ρ) (hm : τ 0 0 ≤ 7) {v : Nat} : zDW τ (zup ρ 28 v) := by
  refine zDW_shrink hD (fun k hk => zup_ne (by omega)) (fun m hm' => by rw [zup_ne (by omega)]; exact Nat.le_refl _) (fun m hm' => ?_)
  have ex : ∀ i, zpX τ (zup ρ 28 v) m i = zpX τ ρ m i := fun i => zpX_congr fun j _ => zup_ne (by omega)
  have ey : ∀ i, zpY τ (zup ρ 28 v) m i = zpY τ ρ m i := fun i => zpY_congr fun j _ => zup_ne (by omega)
  unfold zMn
  rw [ex, ey, zup_ne (by omega), zup_ne (by omega), zup_ne (by omega), zup_ne (by omega)]
  exact hD.man hm'
theorem zCD_28 {I : zI} {d1 : Nat} (h : zCD I d1 τ ρ) (hm : τ 0 0 ≤ 7) {v : Nat} : zCD I d1 τ (zup ρ 28 v) := by
  refine ⟨by rw [zup_ne (by omega)]; exact h.1, fun m hm' => ?_, ?_⟩
  · rw [zup_ne (by omega), zup_ne (by omega), zup_ne (by omega), zup_ne (by omega)]; exact h.2.1 m hm'
  · exact zCP.congr (ρ := ρ) h.2.2 (fun m hm' => zup_ne (by omega)) (fun k hk => zup_ne (by omega))
theorem zgo_28 (lm : Nat → Nat) : ∀ (k i : Nat) (ρ : Nat → Nat), i + k ≤ 7 → zgo τ Λ lm k i ρ 28 = ρ 28 := by
  intro k
  induction k with
  | zero => intro i ρ _; rfl
  | succ k ih =>
    intro i ρ h
    simp only [zgo]
    rw [ih (i + 1) _ (by omega)]
    split
    · rfl
    · exact zact_28 (by omega)
theorem zgo_ok (hW : zTW τ Λ) (lm : Nat → Nat) : ∀ (k i b : Nat) (ρ : Nat → Nat), i + k ≤ τ 0 0 → zDW τ ρ → zRb b ρ → zDW τ (zgo τ Λ lm k i ρ) ∧ zRb (b + k) (zgo τ Λ lm k i ρ) := by
  intro k
  induction k with
  | zero => intro i b ρ _ h1 h2; exact ⟨h1, h2⟩
  | succ k ih =>
    intro i b ρ h h1 h2
    simp only [zgo]
    by_cases q : ρ 28 < lm i
    · rw [if_pos q]
      obtain ⟨a, b⟩ := ih (i + 1) b ρ (by omega) h1 h2
      exact ⟨a, b.mono (by omega)⟩
    · rw [if_neg q]
      obtain ⟨a, b⟩ := ih (i + 1) (b + 1) (zact τ Λ ρ i (ρ 28 - lm i)) (by omega) (zDW_act hW h1 (by omega)) (zRb_act h2 h1 hW (by omega))
      exact ⟨a, b.mono (by omega)⟩
theorem zmi_28 (hW : zTW τ Λ) (lm : Nat → Nat) : zmi τ Λ lm ρ 28 = ρ 28 + 1 := by
  unfold zmi; rw [zup_eq, zgo_28 _ _ _ _ (by have := hW.1.1; omega)]
theorem zmi_ok (hW : zTW τ Λ) (lm : Nat → Nat) {b : Nat} (h1 : zDW τ ρ) (h2 : zRb b ρ) : zDW τ (zmi τ Λ lm ρ) ∧ zRb (b + 7) (zmi τ Λ lm ρ) := by
  have h7 := hW.1.1
  obtain ⟨a, c⟩ := zgo_ok hW lm (τ 0 0) 0 b ρ (by omega) h1 h2
  have h28 := zmi_28 (ρ := ρ) hW lm
  refine ⟨zDW_28 a h7, ⟨by have := c.1; omega, fun k hk hk2 => ?_, by rw [h28]; have := h2.2.2; omega⟩⟩
  unfold zmi
  rw [zup_ne hk2]
  have := c.2.1 k hk hk2; omega
end
