/-! the reference: where a STEP leads, a day's order, STEP and WIND -/
def zdi (w : Nat) : Int := if w = 2 then 1 else if w = 4 then -1 else 0
def zdj (w : Nat) : Int := if w = 1 then 1 else if w = 3 then -1 else 0
theorem zdi_b (w : Nat) : zdi w = -1 ∨ zdi w = 0 ∨ zdi w = 1 := by unfold zdi; by_cases h : w = 2 <;> by_cases h2 : w = 4 <;> simp [h, h2]
theorem zdj_b (w : Nat) : zdj w = -1 ∨ zdj w = 0 ∨ zdj w = 1 := by unfold zdj; by_cases h : w = 1 <;> by_cases h2 : w = 3 <;> simp [h, h2]
theorem zdxI {w : Nat} (h : w ≤ 5) : zdx (nI w) = Int32.ofInt (zdi w) := by
  obtain rfl | rfl | rfl | rfl | rfl | rfl : w = 0 ∨ w = 1 ∨ w = 2 ∨ w = 3 ∨ w = 4 ∨ w = 5 := by omega
  all_goals decide
theorem zdyI {w : Nat} (h : w ≤ 5) : zdy (nI w) = Int32.ofInt (zdj w) := by
  obtain rfl | rfl | rfl | rfl | rfl | rfl : w = 0 ∨ w = 1 ∨ w = 2 ∨ w = 3 ∨ w = 4 ∨ w = 5 := by omega
  all_goals decide
theorem zofI_m1 : Int32.ofInt (-1) = (-1 : Int32) := by decide
theorem zofI_0 : Int32.ofInt 0 = (0 : Int32) := by decide
theorem zofI_1 : Int32.ofInt 1 = (1 : Int32) := by decide
theorem zaddI {a : Nat} {z : Int} (hz : z = -1 ∨ z = 0 ∨ z = 1) (h : 0 ≤ (a : Int) + z) : nI a + Int32.ofInt z = nI ((a : Int) + z).toNat := by
  rcases hz with rfl | rfl | rfl
  · rw [zofI_m1]
    obtain ⟨b, rfl⟩ : ∃ b, a = b + 1 := ⟨a - 1, by omega⟩
    rw [pk_m1]; congr 1; omega
  · rw [zofI_0, Int32.add_zero]; congr 1
  · rw [zofI_1, zadd1]; congr 1
theorem zaddIn {a : Nat} {z : Int} (hz : z = -1 ∨ z = 0 ∨ z = 1) (h : ¬ 0 ≤ (a : Int) + z) : nI a + Int32.ofInt z = -1 := by
  rcases hz with rfl | rfl | rfl
  · rw [zofI_m1]
    obtain rfl : a = 0 := by omega
    decide
  · omega
  · omega
theorem zsubI {a : Nat} {z : Int} (hz : z = -1 ∨ z = 0 ∨ z = 1) (h : 0 ≤ (a : Int) - z) : nI a - Int32.ofInt z = nI ((a : Int) - z).toNat := by
  rcases hz with rfl | rfl | rfl
  · rw [zofI_m1]
    have : nI a - (-1) = nI a + 1 := by rw [Int32.sub_eq_add_neg]; congr 1
    rw [this, zadd1]; congr 1
  · rw [zofI_0, Int32.sub_zero]; congr 1
  · rw [zofI_1]
    obtain ⟨b, rfl⟩ : ∃ b, a = b + 1 := ⟨a - 1, by omega⟩
    rw [zsub1]; congr 1; omega
/-- a corner's coordinate is in the town -/
theorem zin_iff {a n : Nat} {z : Int} (hz : z = -1 ∨ z = 0 ∨ z = 1) (hn : 1 ≤ n) (hn2 : n < 1000000) (ha : a < 1000000) : (0 ≤ nI a + Int32.ofInt z ∧ nI a + Int32.ofInt z ≤ nI n - 1) ↔ (0 ≤ (a : Int) + z ∧ (a : Int) + z < n) := by
  obtain ⟨k, rfl⟩ : ∃ k, n = k + 1 := ⟨n - 1, by omega⟩
  rw [zsub1]
  by_cases h : 0 ≤ (a : Int) + z
  · rw [zaddI hz h, zle' (by omega) (by omega)]
    have := znn (a := ((a : Int) + z).toNat) (by omega)
    constructor
    · rintro ⟨-, q⟩; exact ⟨h, by omega⟩
    · rintro ⟨-, q⟩; exact ⟨this, by omega⟩
  · rw [zaddIn hz h]
    constructor
    · rintro ⟨q, -⟩; exact absurd q (by decide)
    · rintro ⟨q, -⟩; exact absurd q h
def zup (ρ : Nat → Nat) (k v : Nat) : Nat → Nat := fun j => if j = k then v else ρ j
theorem zup_eq {ρ : Nat → Nat} {k v : Nat} : zup ρ k v k = v := if_pos rfl
theorem zup_ne {ρ : Nat → Nat} {k v j : Nat} (h : j ≠ k) : zup ρ k v j = ρ j := if_neg h
theorem zRM.put {I : zI} {a k v : Nat} {ρ : Nat → Nat} (h : zRM I a 0 ρ) : zRM (zu I a k (nI v)) a 0 (zup ρ k v) := by
  intro j hj
  rw [Nat.zero_add]
  by_cases q : j = k
  · subst q; rw [zu_eq, zup_eq]
  · rw [zu_k q, zup_ne q]; exact h.at hj
/-- the reference's number of the street from a corner by a step -/
def zsn (x y w : Nat) : Nat := if w = 1 then 144 + (12 * y + x) else if w = 2 then 12 * y + x else if w = 3 then 144 + (12 * (y - 1) + x) else 12 * y + (x - 1)
theorem zsmI {x y w : Nat} (hw1 : 1 ≤ w) (hw4 : w ≤ 4) (h3 : w = 3 → 1 ≤ y) (h4 : w = 4 → 1 ≤ x) : zsm (nI x) (nI y) (nI w) = nI (zsn x y w) := by
  have l12 : (12 : Int32) = nI 12 := rfl
  obtain rfl | rfl | rfl | rfl : w = 1 ∨ w = 2 ∨ w = 3 ∨ w = 4 := by omega
  · unfold zsm zsn
    rw [if_neg (by decide), if_neg (by decide), if_pos (Or.inl (by decide)), if_pos rfl, l12, zmul, zadd, show (144 : Int32) = nI 144 from rfl, zadd]
    congr 1; omega
  · unfold zsm zsn
    rw [if_neg (by decide), if_neg (by decide), if_neg (by decide), if_neg (by decide), if_pos rfl, l12, zmul, zadd, Int32.add_zero]
  · unfold zsm zsn
    obtain ⟨b, rfl⟩ : ∃ b, y = b + 1 := ⟨y - 1, by have := h3 rfl; omega⟩
    rw [if_pos (by decide), if_neg (by decide), if_pos (Or.inr (by decide)), if_neg (by decide), if_neg (by decide), if_pos rfl, zsub1, l12, zmul, zadd, show (144 : Int32) = nI 144 from rfl, zadd]
    congr 1; omega
  · unfold zsm zsn
    obtain ⟨b, rfl⟩ : ∃ b, x = b + 1 := ⟨x - 1, by have := h4 rfl; omega⟩
    rw [if_neg (by decide), if_pos (by decide), if_neg (by decide), if_neg (by decide), if_neg (by decide), if_neg (by decide), zsub1, l12, zmul, zadd, Int32.add_zero]
    congr 1
/-- the corners of a man's way, from his door on -/
def zpX (τ : Nat → Nat → Nat) (ρ : Nat → Nat) (m : Nat) : Nat → Int
  | 0 => τ 1 m
  | i + 1 => zpX τ ρ m i + zdi (ρ (30 + (60 * m + i)))
def zpY (τ : Nat → Nat → Nat) (ρ : Nat → Nat) (m : Nat) : Nat → Int
  | 0 => τ 2 m
  | i + 1 => zpY τ ρ m i + zdj (ρ (30 + (60 * m + i)))
/-- a PIECE lies -/
def zlive (τ : Nat → Nat → Nat) (ρ : Nat → Nat) (q : Nat) : Prop := q / 60 < τ 0 0 ∧ q % 60 < ρ (14 + q / 60)
/-- a day's order -/
def zDW (τ : Nat → Nat → Nat) (ρ : Nat → Nat) : Prop :=
  (∀ m, m < τ 0 0 → ρ m < τ 0 1 ∧ ρ (7 + m) < τ 0 2 ∧ ρ (14 + m) ≤ τ 9 m ∧ ρ (21 + m) ≤ 1 ∧ (ρ (21 + m) = 1 → ρ (14 + m) = 0) ∧ (ρ (21 + m) = 0 → (ρ m : Int) = zpX τ ρ m (ρ (14 + m)) ∧ (ρ (7 + m) : Int) = zpY τ ρ m (ρ (14 + m)))) ∧
  (∀ m i, m < τ 0 0 → i ≤ ρ (14 + m) → 0 ≤ zpX τ ρ m i ∧ zpX τ ρ m i < τ 0 1 ∧ 0 ≤ zpY τ ρ m i ∧ zpY τ ρ m i < τ 0 2) ∧
  (∀ m i, m < τ 0 0 → i < ρ (14 + m) → 1 ≤ ρ (30 + (60 * m + i)) ∧ ρ (30 + (60 * m + i)) ≤ 4 ∧ ρ (870 + (60 * m + i)) = zsn (zpX τ ρ m i).toNat (zpY τ ρ m i).toNat (ρ (30 + (60 * m + i))) ∧ ρ (450 + (60 * m + i)) < ρ 29) ∧
  ∀ q q', zlive τ ρ q → zlive τ ρ q' → ρ (450 + q) = ρ (450 + q') → q = q'
theorem zDW.dl {τ : Nat → Nat → Nat} {ρ : Nat → Nat} (h : zDW τ ρ) : zDL τ ρ := fun m hm => (h.1 m hm).2.2.1
/-- he can STEP -/
abbrev zcan (τ : Nat → Nat → Nat) (ρ : Nat → Nat) (m w : Nat) : Prop := ρ (21 + m) = 0 ∧ (0 ≤ (ρ m : Int) + zdi w ∧ (ρ m : Int) + zdi w < τ 0 1) ∧ (0 ≤ (ρ (7 + m) : Int) + zdj w ∧ (ρ (7 + m) : Int) + zdj w < τ 0 2) ∧ ρ (14 + m) < τ 9 m
/-- the day behind a STEP -/
def zlay (ρ : Nat → Nat) (m w : Nat) : Nat → Nat :=
  zup (zup (zup (zup (zup (zup (zup ρ (30 + (60 * m + ρ (14 + m))) w) (450 + (60 * m + ρ (14 + m))) (ρ 29)) (870 + (60 * m + ρ (14 + m))) (zsn (ρ m) (ρ (7 + m)) w)) 29 (ρ 29 + 1)) (14 + m) (ρ (14 + m) + 1)) m ((ρ m : Int) + zdi w).toNat) (7 + m) ((ρ (7 + m) : Int) + zdj w).toNat
/-- he can WIND -/
abbrev zcanW (τ : Nat → Nat → Nat) (ρ : Nat → Nat) (m : Nat) : Prop := ρ (21 + m) = 0 ∧ ρ (14 + m) ≠ 0 ∧ zct ρ (τ 0 0) (zoth ρ (ρ (870 + (60 * m + (ρ (14 + m) - 1)))) (nI (ρ (450 + (60 * m + (ρ (14 + m) - 1))))) true) = 0
/-- the day behind a WIND -/
def zunl (ρ : Nat → Nat) (m : Nat) : Nat → Nat :=
  zup (zup (zup ρ (14 + m) (ρ (14 + m) - 1)) m ((ρ m : Int) - zdi (ρ (30 + (60 * m + (ρ (14 + m) - 1))))).toNat) (7 + m) ((ρ (7 + m) : Int) - zdj (ρ (30 + (60 * m + (ρ (14 + m) - 1))))).toNat
/-- what STEP and WIND may write -/
abbrev zfw (I I' : zI) : Prop := zfm [455, 456, 458] [54] I I'
theorem zfl.w {I I' : zI} (h : zfl I I') : zfw I I' := h.mono (by decide) (by decide)
theorem zfw.row {I I' : zI} (h : zfw I I') {a : Nat} (h1 : a ≠ 420) (h2 : a ≠ 455) (h3 : a ≠ 456) (h4 : a ≠ 458) : I' a = I a := h.1 a h1 (by simp; exact ⟨h2, h3, h4⟩)
theorem zMT.fw {I I' : zI} {v : Nat} {τ : Nat → Nat → Nat} {Λ : Nat → Option zLaw} (h : zMT I v τ Λ) (hf : zfw I I') : zMT I' v τ Λ :=
  h.same (hf.2 18 (by decide)) (fun a h1 h2 => hf.1 a (by omega) (by simp; omega))
section
variable {d : Nat} {Z : zZ} {J : zJ} {t u : Nat} {τ : Nat → Nat → Nat} {Λ : Nat → Option zLaw}
theorem zRM.fl {I I' : zI} {ρ : Nat → Nat} (h : zRM I 458 0 ρ) (hf : zfl I I') : zRM I' 458 0 ρ := fun k hk => by rw [hf.row (by decide) (by decide) (by decide)]; exact h k hk
theorem M_isCorner (hL : zLY Z t u) {I : zI} {v : Nat} (hM : zMT I v τ Λ) {x y : Int32} : zE (d + 1) kX12_isCorner 0 [some (.ref 420), some (.int x), some (.int y)] [] Z I J (some (.int (zbi ((0 ≤ x ∧ x ≤ nI (τ 0 1) - 1) ∧ (0 ≤ y ∧ y ≤ nI (τ 0 2) - 1)))), Z, I, J) := by
  have hlv := hM.1.2
  have hv2 := hM.1.1
  have hvi : vp_in (I 420 18) 2 := by rw [hlv]; exact zvin hv2 (by decide)
  have e1 : I 429 (I 420 18).toNatClampNeg = nI (τ 0 1) := by rw [hlv, zclm (by omega)]; exact hM.2.1.2.1
  have e2 : I 430 (I 420 18).toNatClampNeg = nI (τ 0 2) := by rw [hlv, zclm (by omega)]; exact hM.2.1.2.2.1
  refine BX12_isCorner_0 _ _ hL ⟨hvi, fun q => ?_, fun q => ⟨hvi, fun q2 => ?_, fun q2 => ?_⟩⟩
  · rw [e1, zbi_eq0] at q; rw [zbi_f (fun z => q z.1)]
  · rw [e1, zbi_ne0] at q; rw [e2, zbi_eq0] at q2; rw [zbi_f (fun z => q2 z.2)]
  · rw [e1, zbi_ne0] at q; rw [e2, zbi_ne0] at q2; rw [zbi_t ⟨q, q2⟩]
set_option maxHeartbeats 2000000 in
theorem M_steps (hL : zLY Z t u) {I : zI} {v : Nat} (hW : zTW τ Λ) (hM : zMT I v τ Λ) {ρ : Nat → Nat} (hR : zRM I 458 0 ρ) (hB : zRB ρ) (hD : zDW τ ρ) {m w : Nat} (hm : m < τ 0 0) (hw1 : 1 ≤ w) (hw4 : w ≤ 4) :
    (zcan τ ρ m w → ∃ I', zE (d + 4) kX12_steps 0 [some (.ref 420), some (.int (nI m)), some (.int (nI w)), none, none, none] [] Z I J (some (.int 1), Z, I', J) ∧ zRM I' 458 0 (zlay ρ m w) ∧ zfw I I') ∧
    (¬ zcan τ ρ m w → ∃ I', zE (d + 4) kX12_steps 0 [some (.ref 420), some (.int (nI m)), some (.int (nI w)), none, none, none] [] Z I J (some (.int 0), Z, I', J) ∧ zfl I I') := by
  have h7 := hW.1.1
  obtain ⟨p1, p2, p3, p4, p5, p6⟩ := hD.1 m hm
  have hw12 := hW.1.2.2.1
  have hd12 := hW.1.2.2.2.2.1
  have hm60 : ρ (14 + m) ≤ 60 := Nat.le_trans p3 (hW.2.1 m hm).2.2.2.2.1
  have l60 := (hW.2.1 m hm).2.2.2.2.1
  have bx := zdi_b w
  have bY := zdj_b w
  have e7 : (7 : Int32) + nI m = nI (7 + m) := zk14 rfl
  have e14 : (14 : Int32) + nI m = nI (14 + m) := zk14 rfl
  have e21 : (21 : Int32) + nI m = nI (21 + m) := zk14 rfl
  have r0 : I 458 (nI m).toNatClampNeg = nI (ρ m) := by rw [zclm (by omega)]; exact hR.at (by omega)
  have r7 : I 458 ((7 : Int32) + nI m).toNatClampNeg = nI (ρ (7 + m)) := by rw [e7, zclm (by omega)]; exact hR.at (by omega)
  have r21 : I 458 ((21 : Int32) + nI m).toNatClampNeg = nI (ρ (21 + m)) := by rw [e21, zclm (by omega)]; exact hR.at (by omega)
  have v0 : vp_in (nI m) 1290 := zvin (by omega) (by decide)
  have v7 : vp_in ((7 : Int32) + nI m) 1290 := by rw [e7]; exact zvin (by omega) (by decide)
  have v14 : vp_in ((14 : Int32) + nI m) 1290 := by rw [e14]; exact zvin (by omega) (by decide)
  have v21 : vp_in ((21 : Int32) + nI m) 1290 := by rw [e21]; exact zvin (by omega) (by decide)
  have hx : nI (ρ m) + zdx (nI w) = nI (ρ m) + Int32.ofInt (zdi w) := by rw [zdxI (by omega)]
  have hy : nI (ρ (7 + m)) + zdy (nI w) = nI (ρ (7 + m)) + Int32.ofInt (zdj w) := by rw [zdyI (by omega)]
  have hxi := zin_iff (a := ρ m) (n := τ 0 1) bx (by omega) (by omega) (by omega)
  have hyi := zin_iff (a := ρ (7 + m)) (n := τ 0 2) bY (by omega) (by omega) (by omega)
  have hcor := M_isCorner (d := d + 2) (J := J) (I := I) hL hM (x := nI (ρ m) + zdx (nI w)) (y := nI (ρ (7 + m)) + zdy (nI w))
  rw [hx, hy] at hcor
  obtain ⟨I5, hleft, hf5⟩ := M_leftOf (d := d) (J := J) hL hW hM hR hm p3
  refine ⟨fun hc => ?_, fun hc => ?_⟩
  · obtain ⟨c1, c2, c3, c4⟩ := hc
    generalize hat : 60 * m + ρ (14 + m) = q
    have hq : q < 420 := by omega
    have hR5 := hR.fl hf5
    -- the row behind each write
    have R7 := hR5.put (k := 30 + q) (v := w)
    have R8 := R7.put (k := 450 + q) (v := ρ 29)
    have R9 := R8.put (k := 870 + q) (v := zsn (ρ m) (ρ (7 + m)) w)
    have R10 := R9.put (k := 29) (v := ρ 29 + 1)
    have R11 := R10.put (k := 14 + m) (v := ρ (14 + m) + 1)
    have R12 := R11.put (k := m) (v := ((ρ m : Int) + zdi w).toNat)
    have R13 := R12.put (k := 7 + m) (v := ((ρ (7 + m) : Int) + zdj w).toNat)
    have ey : ((60 : Int32) * nI m) + nI (ρ (14 + m)) = nI q := by rw [show (60 : Int32) = nI 60 from rfl, zmul, zadd, hat]
    have e30 : (30 : Int32) + nI q = nI (30 + q) := zk14 rfl
    have e450 : (450 : Int32) + nI q = nI (450 + q) := zk14 rfl
    have e870 : (870 : Int32) + nI q = nI (870 + q) := zk14 rfl
    have v30 : vp_in ((30 : Int32) + nI q) 1290 := by rw [e30]; exact zvin (by omega) (by decide)
    have v450 : vp_in ((450 : Int32) + nI q) 1290 := by rw [e450]; exact zvin (by omega) (by decide)
    have v870 : vp_in ((870 : Int32) + nI q) 1290 := by rw [e870]; exact zvin (by omega) (by decide)
    have hp : ∀ {I1 : zI} {k : Nat} {x : Int32}, zfw I1 (zu I1 458 k x) := fun {I1 k x} => zfm.put (by decide) (by decide)
    have hcor1 : zE (d + 3) kX12_isCorner 0 [some (.ref 420), some (.int (nI (ρ m) + Int32.ofInt (zdi w))), some (.int (nI (ρ (7 + m)) + Int32.ofInt (zdj w)))] [] Z I J (some (.int 1), Z, I, J) := by
      rw [zbi_t ⟨hxi.mpr c2, hyi.mpr c3⟩] at hcor; exact hcor
    refine ⟨zu (zu (zu (zu (zu (zu (zu I5 458 (30 + q) (nI w)) 458 (450 + q) (nI (ρ 29))) 458 (870 + q) (nI (zsn (ρ m) (ρ (7 + m)) w))) 458 29 (nI (ρ 29 + 1))) 458 (14 + m) (nI (ρ (14 + m) + 1))) 458 m (nI ((ρ m : Int) + zdi w).toNat)) 458 (7 + m) (nI ((ρ (7 + m) : Int) + zdj w).toNat), BX12_steps_0 _ _ hL ⟨v0, fun y1 f1 => ⟨v7, fun y2 f2 => ⟨v21, fun z => absurd z ?ga, fun _ => ⟨1, ?gb, fun z => absurd z (by decide), fun _ => ⟨nI (τ 9 m - ρ (14 + m)), I5, hleft, fun _ => ⟨v14, fun y6 f6 => ?ge⟩, fun z => absurd ?gd z⟩⟩⟩⟩⟩, ?gf, ((((((hf5.w.tr hp).tr hp).tr hp).tr hp).tr hp).tr hp).tr hp⟩
    case gf => unfold zlay; rw [hat]; exact R13
    case ga => rw [r21, c1]; decide
    case gb => subst f1; subst f2; rw [r0, r7, hx, hy]; exact hcor1
    case gd => rw [show (1 : Int32) = nI 1 from rfl, zle' (by decide) (by omega)]; omega
    case ge =>
      rw [e14, zclm (by omega), hR5.at (by omega), ey] at f6
      subst f6
      refine ⟨v30, fun I7 f7 => ?_⟩
      rw [e30, zclm (by omega)] at f7
      subst f7
      refine ⟨v450, fun I8 f8 => ?_⟩
      rw [e450, zclm (by omega), R7.at (by decide), zup_ne (by omega)] at f8
      subst f8
      refine ⟨v0, v7, v870, fun I9 f9 => ?_⟩
      rw [e870, zclm (by omega), e7, zclm (by omega), zclm (by omega), R8.at (by omega), R8.at (by omega), zup_ne (by omega), zup_ne (by omega), zup_ne (by omega), zup_ne (by omega), zsmI hw1 hw4 (fun h => by rw [h] at c3; simp [zdj] at c3; omega) (fun h => by rw [h] at c2; simp [zdi] at c2; omega)] at f9
      subst f9
      intro I10 f10
      rw [R9.at (by decide), zup_ne (by omega), zup_ne (by omega), zup_ne (by omega), zadd1] at f10
      subst f10
      refine ⟨v14, v14, fun I11 f11 => ?_⟩
      rw [e14, zclm (by omega), R10.at (by omega), zup_ne (by omega), zup_ne (by omega), zup_ne (by omega), zup_ne (by omega), zadd1] at f11
      subst f11
      refine ⟨v0, fun I12 f12 => ?_⟩
      rw [zclm (by omega), f1, r0, hx, zaddI bx c2.1] at f12
      subst f12
      refine ⟨v7, fun I13 f13 => ?_⟩
      rw [e7, zclm (by omega), f2, r7, hy, zaddI bY c3.1] at f13
      rw [f13]
  · by_cases c1 : ρ (21 + m) = 1
    · exact ⟨I, BX12_steps_0 _ _ hL ⟨v0, fun y1 f1 => ⟨v7, fun y2 f2 => ⟨v21, fun _ => rfl, fun z => absurd (by rw [r21, c1]; rfl) z⟩⟩⟩, zfm.rf⟩
    · have hn1 : ¬ I 458 ((21 : Int32) + nI m).toNatClampNeg = 1 := by rw [r21, show (1 : Int32) = nI 1 from rfl, zeq (by omega) (by decide)]; exact c1
      by_cases c2 : ((0 ≤ (ρ m : Int) + zdi w ∧ (ρ m : Int) + zdi w < τ 0 1) ∧ (0 ≤ (ρ (7 + m) : Int) + zdj w ∧ (ρ (7 + m) : Int) + zdj w < τ 0 2))
      · have c4 : ¬ ρ (14 + m) < τ 9 m := fun q => hc ⟨by omega, c2.1, c2.2, q⟩
        refine ⟨I5, BX12_steps_0 _ _ hL ⟨v0, fun y1 f1 => ⟨v7, fun y2 f2 => ⟨v21, fun z => absurd z hn1, fun _ => ⟨1, ?_, fun z => absurd z (by decide), fun _ => ⟨nI (τ 9 m - ρ (14 + m)), I5, hleft, fun z => ?_, fun _ => rfl⟩⟩⟩⟩⟩, hf5⟩
        · rw [zbi_t ⟨hxi.mpr c2.1, hyi.mpr c2.2⟩] at hcor; subst f1; subst f2; rw [r0, r7, hx, hy]; exact hcor
        · rw [show (1 : Int32) = nI 1 from rfl, zle' (by decide) (by omega)] at z; omega
      · refine ⟨I, BX12_steps_0 _ _ hL ⟨v0, fun y1 f1 => ⟨v7, fun y2 f2 => ⟨v21, fun z => absurd z hn1, fun _ => ⟨0, ?_, fun _ => rfl, fun z => absurd rfl z⟩⟩⟩⟩, zfm.rf⟩
        rw [zbi_f (fun z => c2 ⟨hxi.mp z.1, hyi.mp z.2⟩)] at hcor; subst f1; subst f2; rw [r0, r7, hx, hy]; exact hcor
set_option maxHeartbeats 2000000 in
theorem M_winds (hL : zLY Z t u) {I : zI} {v : Nat} (hW : zTW τ Λ) (hM : zMT I v τ Λ) {ρ : Nat → Nat} (hR : zRM I 458 0 ρ) (hB : zRB ρ) (hD : zDW τ ρ) {m : Nat} (hm : m < τ 0 0) :
    (zcanW τ ρ m → ∃ I', zE (d + 1) kX12_winds 0 [some (.ref 420), some (.int (nI m)), none] [] Z I J (some (.int 1), Z, I', J) ∧ zRM I' 458 0 (zunl ρ m) ∧ zfw I I') ∧
    (¬ zcanW τ ρ m → zE (d + 1) kX12_winds 0 [some (.ref 420), some (.int (nI m)), none] [] Z I J (some (.int 0), Z, I, J)) := by
  have h7 := hW.1.1
  obtain ⟨p1, p2, p3, p4, p5, p6⟩ := hD.1 m hm
  have hw12 := hW.1.2.2.1
  have hd12 := hW.1.2.2.2.2.1
  have l60 := (hW.2.1 m hm).2.2.2.2.1
  have e7 : (7 : Int32) + nI m = nI (7 + m) := zk14 rfl
  have e14 : (14 : Int32) + nI m = nI (14 + m) := zk14 rfl
  have e21 : (21 : Int32) + nI m = nI (21 + m) := zk14 rfl
  have r14 : I 458 ((14 : Int32) + nI m).toNatClampNeg = nI (ρ (14 + m)) := by rw [e14, zclm (by omega)]; exact hR.at (by omega)
  have r21 : I 458 ((21 : Int32) + nI m).toNatClampNeg = nI (ρ (21 + m)) := by rw [e21, zclm (by omega)]; exact hR.at (by omega)
  have v0 : vp_in (nI m) 1290 := zvin (by omega) (by decide)
  have v7 : vp_in ((7 : Int32) + nI m) 1290 := by rw [e7]; exact zvin (by omega) (by decide)
  have v14 : vp_in ((14 : Int32) + nI m) 1290 := by rw [e14]; exact zvin (by omega) (by decide)
  have v21 : vp_in ((21 : Int32) + nI m) 1290 := by rw [e21]; exact zvin (by omega) (by decide)
  by_cases c1 : ρ (21 + m) = 1
  · refine ⟨fun hc => absurd hc.1 (by omega), fun _ => BX12_winds_0 _ hL ⟨v21, fun _ => rfl, fun z => absurd (by rw [r21, c1]; rfl) z⟩⟩
  · have hn1 : ¬ I 458 ((21 : Int32) + nI m).toNatClampNeg = 1 := by rw [r21, show (1 : Int32) = nI 1 from rfl, zeq (by omega) (by decide)]; exact c1
    by_cases c2 : ρ (14 + m) = 0
    · refine ⟨fun hc => absurd c2 hc.2.1, fun _ => BX12_winds_0 _ hL ⟨v21, fun z => absurd z hn1, fun _ => ⟨v14, fun z => absurd (by rw [r14, c2]; rfl) z, fun _ => rfl⟩⟩⟩
    · have hn2 : ¬ I 458 ((14 : Int32) + nI m).toNatClampNeg = 0 := by rw [r14, show (0 : Int32) = nI 0 from rfl, zeq (by omega) (by decide)]; exact c2
      obtain ⟨k, hk⟩ : ∃ k, ρ (14 + m) = k + 1 := ⟨ρ (14 + m) - 1, by omega⟩
      obtain ⟨w1, w4, s1, t1⟩ := hD.2.2.1 m k hm (by omega)
      obtain ⟨x1, x2, y1, y2⟩ := hD.2.1 m k hm (by omega)
      have p6 := p6 (by omega)
      rw [hk] at p6
      have ek : ρ (14 + m) - 1 = k := by omega
      generalize hat : 60 * m + k = q at w1 w4 s1 t1
      have hq : q < 420 := by omega
      have ey : (((60 : Int32) * nI m) + (I 458 ((14 : Int32) + nI m).toNatClampNeg)) - 1 = nI q := by
        rw [r14, show (60 : Int32) = nI 60 from rfl, zmul, zadd, hk, show 60 * m + (k + 1) = q + 1 by omega, zsub1]
      have e30 : (30 : Int32) + nI q = nI (30 + q) := zk14 rfl
      have e450 : (450 : Int32) + nI q = nI (450 + q) := zk14 rfl
      have e870 : (870 : Int32) + nI q = nI (870 + q) := zk14 rfl
      have v30 : vp_in ((30 : Int32) + nI q) 1290 := by rw [e30]; exact zvin (by omega) (by decide)
      have v450 : vp_in ((450 : Int32) + nI q) 1290 := by rw [e450]; exact zvin (by omega) (by decide)
      have v870 : vp_in ((870 : Int32) + nI q) 1290 := by rw [e870]; exact zvin (by omega) (by decide)
      have r450 : I 458 ((450 : Int32) + nI q).toNatClampNeg = nI (ρ (450 + q)) := by rw [e450, zclm (by omega)]; exact hR.at (by omega)
      have r870 : I 458 ((870 : Int32) + nI q).toNatClampNeg = nI (ρ (870 + q)) := by rw [e870, zclm (by omega)]; exact hR.at (by omega)
      have hb := hB (870 + q) (by omega)
      have hoth := M_others (d := d) (J := J) hL hW hM hR hB hD.dl (s := ρ (870 + q)) hb (tm := nI (ρ (450 + q))) (ov := true)
      generalize hC : zct ρ (τ 0 0) (zoth ρ (ρ (870 + q)) (nI (ρ (450 + q))) true) = C at hoth
      have hCle : C ≤ 420 := by
        rw [← hC]
        have := zct_le (ρ := ρ) (n := τ 0 0) (P := zoth ρ (ρ (870 + q)) (nI (ρ (450 + q))) true) (fun m' hm' => Nat.le_trans (hD.dl m' hm') (hW.2.1 m' hm').2.2.2.2.1)
        omega
      have hcC : zcanW τ ρ m ↔ C = 0 := by
        unfold zcanW
        rw [ek, hat, hC]
        exact ⟨fun h => h.2.2, fun h => ⟨by omega, c2, h⟩⟩
      have hle : nI C ≤ 0 ↔ C = 0 := by
        rw [show (0 : Int32) = nI 0 from rfl, zle' (by omega) (by decide)]; omega
      refine ⟨fun hc => ?_, fun hc => ?_⟩
      · have hC0 := hcC.mp hc
        have R1 := hR.put (k := 14 + m) (v := k)
        have R2 := R1.put (k := m) (v := ((ρ m : Int) - zdi (ρ (30 + q))).toNat)
        have R3 := R2.put (k := 7 + m) (v := ((ρ (7 + m) : Int) - zdj (ρ (30 + q))).toNat)
        have hp : ∀ {I1 : zI} {k : Nat} {x : Int32}, zfw I1 (zu I1 458 k x) := fun {I1 k x} => zfm.put (by decide) (by decide)
        have hX : (ρ m : Int) = zpX τ ρ m k + zdi (ρ (30 + q)) := by rw [p6.1]; simp only [zpX, hat]
        have hY : (ρ (7 + m) : Int) = zpY τ ρ m k + zdj (ρ (30 + q)) := by rw [p6.2]; simp only [zpY, hat]
        refine ⟨zu (zu (zu I 458 (14 + m) (nI k)) 458 m (nI ((ρ m : Int) - zdi (ρ (30 + q))).toNat)) 458 (7 + m) (nI ((ρ (7 + m) : Int) - zdj (ρ (30 + q))).toNat), BX12_winds_0 _ hL ⟨v21, fun z => absurd z hn1, fun _ => ⟨v14, fun _ => ⟨v14, fun y1 f1 => ?ga⟩, fun z => absurd z hn2⟩⟩, ?gf, (hp.tr hp).tr hp⟩
        case gf => unfold zunl; rw [ek, hat]; exact R3
        case ga =>
          rw [ey] at f1
          subst f1
          refine ⟨v870, v450, nI C, by rw [r870, r450]; exact hoth, fun _ => ⟨v14, v14, fun I3 f3 => ⟨v0, v30, v0, fun I4 f4 => ⟨v7, v30, v7, fun I5 f5 => ?gb⟩⟩⟩, fun z => absurd (hle.mpr hC0) z⟩
          rw [e14, zclm (by omega), hR.at (by omega), hk, zsub1] at f3
          subst f3
          rw [e30, zclm (by omega), zclm (by omega), R1.at (by omega), R1.at (by omega), zup_ne (by omega), zup_ne (by omega), zdxI (by omega), zsubI (zdi_b _) (by omega)] at f4
          subst f4
          rw [e30, e7, zclm (by omega), zclm (by omega), R2.at (by omega), R2.at (by omega), zup_ne (by omega), zup_ne (by omega), zup_ne (by omega), zup_ne (by omega), zdyI (by omega), zsubI (zdj_b _) (by omega)] at f5
          rw [f5]
      · have hC0 : ¬ C = 0 := fun h => hc (hcC.mpr h)
        refine BX12_winds_0 _ hL ⟨v21, fun z => absurd z hn1, fun _ => ⟨v14, fun _ => ⟨v14, fun y1 f1 => ?_⟩, fun z => absurd z hn2⟩⟩
        rw [ey] at f1
        subst f1
        exact ⟨v870, v450, nI C, by rw [r870, r450]; exact hoth, fun z => absurd (hle.mp z) hC0, fun _ => rfl⟩
end
