/-! the class: a day; STEP -/
set_option maxHeartbeats 4000000 in
theorem BX11_atR_0 {d : Nat} {Z : zZ} {I : zI} {J : zJ} {o : zO} {a0 n0 : Nat} (x1 : Int32) (ha0 : zro Z a0 n0) (h : ((x1 < 0 → o = (some (.int 0), Z, I, J)) ∧ (¬ x1 < 0 → (((Int32.ofNat n0) ≤ x1 → o = (some (.int 0), Z, I, J)) ∧ (¬ (Int32.ofNat n0) ≤ x1 → (vp_in x1 n0 ∧ o = (some (.int (I a0 x1.toNatClampNeg)), Z, I, J))))))) : zE d kX11_at 0 [some (.ref a0), some (.int x1)] [] Z I J o := by
  refine ex_step (pc' := 1) dX11_at_0 rfl ?_
  refine ex_if (pc' := 16) dX11_at_1 (by decide) (fun c => ?_) (fun c => ?_)
  · have h := h.1 c
    refine ex_step (pc' := 17) (st' := [.int 0]) dX11_at_16 rfl ?_
    rw [h]; exact ex_ret (v := some (.int 0)) ⟨dX11_at_17, _, rfl, rfl⟩
  · have h := h.2 c
    refine ex_step (pc' := 5) dX11_at_4 rfl ?_
    refine ex_step (pc' := 6) dX11_at_5 rfl ?_
    refine ex_alen (kd := 1) dX11_at_6 (Or.inr ha0) ?_
    refine ex_icmp (pc' := 16) dX11_at_7 (by decide) (fun c => ?_) (fun c => ?_)
    · have h := h.1 c
      refine ex_step (pc' := 17) (st' := [.int 0]) dX11_at_16 rfl ?_
      rw [h]; exact ex_ret (v := some (.int 0)) ⟨dX11_at_17, _, rfl, rfl⟩
    · have h := h.2 c
      refine ex_step (pc' := 11) dX11_at_10 rfl ?_
      refine ex_step (pc' := 12) dX11_at_11 rfl ?_
      obtain ⟨hv, h⟩ := h
      refine ex_iald dX11_at_12 (Or.inr ha0) hv ?_
      refine ex_step (pc' := 17) dX11_at_13 rfl ?_
      rw [h]; exact ex_ret (v := some (.int (I a0 x1.toNatClampNeg))) ⟨dX11_at_17, _, rfl, rfl⟩
/-- the rows STEP_X, STEP_Y -/
def zSx (I : zI) : Prop := ∀ w, w ≤ 4 → I 1000001 w = Int32.ofInt (zdi w) ∧ I 1000002 w = Int32.ofInt (zdj w)
/-- a corner in the town -/
abbrev zcor (τ : Nat → Nat → Nat) (x y : Int32) : Prop := (0 ≤ x ∧ x ≤ nI (τ 0 1) - 1) ∧ (0 ≤ y ∧ y ≤ nI (τ 0 2) - 1)
/-- a day in the class, but for its minute -/
def zCD (I : zI) (d : Nat) (τ : Nat → Nat → Nat) (ρ : Nat → Nat) : Prop :=
  I d 10 = nI (ρ 29) ∧ (∀ m, m < τ 0 0 → I (d + 1) m = nI (ρ m) ∧ I (d + 2) m = nI (ρ (7 + m)) ∧ I (d + 3) m = nI (ρ (14 + m)) ∧ I (d + 4) m = nI (ρ (21 + m))) ∧
  (∀ q, zlive τ ρ q → I (d + 5) (q + 1) = nI (ρ (30 + q)) ∧ I (d + 6) (q + 1) = nI (zenc (ρ (870 + q))) ∧ I (d + 8) (q + 1) = nI (ρ (450 + q) + 1) ∧ ∃ v, I (d + 7) (q + 1) = nI v ∧ zbel τ ρ (ρ (870 + q)) (ρ (450 + q)) v) ∧
  ∀ s, s < 288 → ∃ v, I (d + 9) (zenc s) = nI v ∧ zbel τ ρ s (ρ 29) v
/-- a day in the class -/
def zCE (I : zI) (d : Nat) (τ : Nat → Nat → Nat) (ρ : Nat → Nat) : Prop := zCD I d τ ρ ∧ I d 0 = nI (ρ 28) ∧ I (d + 8) 0 = 0
/-- what a move on a day writes -/
def zfd (d : Nat) (I I' : zI) : Prop := (∀ a, ¬ (d ≤ a ∧ a ≤ d + 9) → I' a = I a) ∧ I' d 0 = I d 0 ∧ I' (d + 8) 0 = I (d + 8) 0
theorem zfd.rf {d : Nat} {I : zI} : zfd d I I := ⟨fun _ _ => rfl, rfl, rfl⟩
theorem zfd.tr {d : Nat} {I I' I'' : zI} (h1 : zfd d I I') (h2 : zfd d I' I'') : zfd d I I'' := ⟨fun a h => (h2.1 a h).trans (h1.1 a h), h2.2.1.trans h1.2.1, h2.2.2.trans h1.2.2⟩
theorem zfd.put {d : Nat} {I : zI} {a k : Nat} {v : Int32} (h1 : d ≤ a) (h2 : a ≤ d + 9) (h3 : a = d ∨ a = d + 8 → k ≠ 0) : zfd d I (zu I a k v) := by
  refine ⟨fun b hb => zu_ne (fun e => hb (by omega)), ?_, ?_⟩
  · rw [zu_if, if_neg]; rintro ⟨e1, e2⟩; exact h3 (Or.inl e1.symm) e2.symm
  · rw [zu_if, if_neg]; rintro ⟨e1, e2⟩; exact h3 (Or.inr e1.symm) e2.symm
theorem zCD.same {I I' : zI} {d : Nat} {τ : Nat → Nat → Nat} {ρ : Nat → Nat} (h : zCD I d τ ρ) (hs : ∀ a, d ≤ a → a ≤ d + 9 → I' a = I a) : zCD I' d τ ρ := by
  have e := fun k (h1 : k ≤ 9) => hs (d + k) (by omega) (by omega)
  have e0 : I' d = I d := e 0 (by decide)
  unfold zCD
  rw [e0, e 1 (by decide), e 2 (by decide), e 3 (by decide), e 4 (by decide), e 5 (by decide), e 6 (by decide), e 7 (by decide), e 8 (by decide), e 9 (by decide)]
  exact h
theorem zCE.same {I I' : zI} {d : Nat} {τ : Nat → Nat → Nat} {ρ : Nat → Nat} (h : zCE I d τ ρ) (hs : ∀ a, d ≤ a → a ≤ d + 9 → I' a = I a) : zCE I' d τ ρ :=
  ⟨h.1.same hs, by rw [hs d (by omega) (by omega)]; exact h.2.1, by rw [hs (d + 8) (by omega) (by omega)]; exact h.2.2⟩
section
variable {d : Nat} {Z : zZ} {J : zJ} {t u : Nat} {τ : Nat → Nat → Nat} {Λ : Nat → Option zLaw} {ρ : Nat → Nat}
theorem S_atR {I : zI} {a n : Nat} {i : Int32} (hn : n < 2 ^ 31) (h : zro Z a n) : zE d kX11_at 0 [some (.ref a), some (.int i)] [] Z I J (some (.int (zat I a n i)), Z, I, J) := by
  refine BX11_atR_0 _ h ⟨fun c => ?_, fun c => ⟨fun c2 => ?_, fun c2 => ⟨z_vin hn c c2, ?_⟩⟩⟩
  · refine zs_o3 (congrArg Value.int ?_); unfold zat; rw [if_neg]; rintro ⟨q, -⟩; exact absurd c (Int32.not_lt.mpr q)
  · refine zs_o3 (congrArg Value.int ?_); unfold zat; rw [if_neg]; rintro ⟨-, q⟩; exact absurd c2 (Int32.not_le.mpr q)
  · refine zs_o3 (congrArg Value.int ?_); unfold zat; rw [if_pos ⟨Int32.not_lt.mp c, Int32.not_le.mp c2⟩]
theorem S_stepX (hL : zLY Z t u) {I : zI} (hS : zSx I) {w : Nat} (hw : w ≤ 4) : zE d kX11_at 0 [some (.ref 1000001), some (.int (nI w))] [] Z I J (some (.int (Int32.ofInt (zdi w))), Z, I, J) := by
  have := S_atR (d := d) (J := J) (I := I) (i := nI w) (by decide) (ly_ro1 hL)
  rw [zatI (by omega) (by decide), (hS w hw).1] at this
  exact this
theorem S_stepY (hL : zLY Z t u) {I : zI} (hS : zSx I) {w : Nat} (hw : w ≤ 4) : zE d kX11_at 0 [some (.ref 1000002), some (.int (nI w))] [] Z I J (some (.int (Int32.ofInt (zdj w))), Z, I, J) := by
  have := S_atR (d := d) (J := J) (I := I) (i := nI w) (by decide) (ly_ro2 hL)
  rw [zatI (by omega) (by decide), (hS w hw).2] at this
  exact this
theorem S_hasCorner {t1 : Nat} (ht : zTx Z t1) {I : zI} (hW : zTW τ Λ) (hT : zCT I t1 τ Λ) {x y : Int32} : zE d kX6_hasCorner 0 [some (.ref t1), some (.int x), some (.int y)] [] Z I J (some (.int (zbi (zcor τ x y))), Z, I, J) := by
  obtain ⟨⟨-, b1, b2, -⟩, -⟩ := hT
  have hh : ∀ (n : Nat) (v : Int32), 2 ≤ n → n ≤ 12 → (v ≤ nI n - 1 ↔ ¬ nI n ≤ v) := fun n v h1 h2 => by
    obtain ⟨k, rfl⟩ : ∃ k, n = k + 1 := ⟨n - 1, by omega⟩
    rw [zsub1]
    constructor
    · intro a b
      have := Int32.le_trans b a
      rw [zle' (by omega) (by omega)] at this; omega
    · intro a
      by_cases hv : v < 0
      · exact Int32.le_trans (Int32.le_of_lt hv) (znn (by omega))
      · obtain ⟨j, hj, rfl⟩ := znI_ex v hv
        rw [zle' (by omega) hj] at a
        rw [zle' hj (by omega)]; omega
  obtain ⟨-, w1, w2, w3, w4, -⟩ := hW.1
  refine BX6_hasCorner_0 _ _ ht ⟨fun q => ?_, fun q => ⟨fun q2 => ?_, fun q2 => ⟨fun q3 => ?_, fun q3 => ⟨fun q4 => ?_, fun q4 => ?_⟩⟩⟩⟩
  · rw [zbi_f (fun z => absurd q (Int32.not_lt.mpr z.1.1))]
  · rw [b1] at q2; rw [zbi_f (fun z => (hh _ _ w1 w2).mp z.1.2 q2)]
  · rw [zbi_f (fun z => absurd q3 (Int32.not_lt.mpr z.2.1))]
  · rw [b2] at q4; rw [zbi_f (fun z => (hh _ _ w3 w4).mp z.2.2 q4)]
  · rw [b1] at q2; rw [b2] at q4
    rw [zbi_t ⟨⟨Int32.not_lt.mp q, (hh _ _ w1 w2).mpr q2⟩, Int32.not_lt.mp q3, (hh _ _ w3 w4).mpr q4⟩]
/-- is there that street -/
theorem S_hasStreet (hL : zLY Z t u) {t1 : Nat} (ht : zTx Z t1) {I : zI} (hS : zSx I) (hW : zTW τ Λ) (hT : zCT I t1 τ Λ) {x y w : Int32} : zE (d + 1) kX6_hasStreet 0 [some (.ref t1), some (.int x), some (.int y), some (.int w)] [] Z I J (some (.int (zbi ((1 ≤ w ∧ w ≤ 4) ∧ zcor τ x y ∧ zcor τ (x + zdx w) (y + zdy w)))), Z, I, J) := by
  refine BX6_hasStreet_0 _ _ _ hL ht ⟨fun q => ?_, fun q => ⟨fun q2 => ?_, fun q2 => ?_⟩⟩
  · rw [zbi_f (fun z => absurd q (Int32.not_lt.mpr z.1.1))]
  · rw [zbi_f (fun z => absurd q2 (Int32.not_lt.mpr z.1.2))]
  · have h1 : 1 ≤ w := Int32.not_lt.mp q
    have h4 : w ≤ 4 := Int32.not_lt.mp q2
    obtain ⟨k, hk, rfl⟩ := znI_ex w (fun z => absurd (Int32.lt_of_lt_of_le z (Int32.le_trans (by decide : (0 : Int32) ≤ 1) h1)) (fun y => Int32.lt_irrefl y))
    have hk4 : k ≤ 4 := by rw [show (4 : Int32) = nI 4 from rfl, zle' hk (by decide)] at h4; exact h4
    refine ⟨_, S_hasCorner ht hW hT, fun q3 => ?_, fun q3 => ⟨_, S_stepX hL hS hk4, _, S_stepY hL hS hk4, _, S_hasCorner ht hW hT, fun q5 => ?_, fun q5 => ?_⟩⟩
    · rw [zbi_eq0] at q3; rw [zbi_f (fun z => q3 z.2.1)]
    · rw [zbi_eq0, ← zdxI (by omega), ← zdyI (by omega)] at q5; rw [zbi_f (fun z => q5 z.2.2)]
    · rw [zbi_ne0] at q3
      rw [zbi_ne0, ← zdxI (by omega), ← zdyI (by omega)] at q5; rw [zbi_t ⟨⟨h1, h4⟩, q3, q5⟩]
theorem C_left {d1 t1 : Nat} (hd : zDy Z d1) (ht : zTx Z t1) {I : zI} (hW : zTW τ Λ) (hT : zCT I t1 τ Λ) (hC : zCD I d1 τ ρ) {m : Nat} (hm : m < τ 0 0) (hle : ρ (14 + m) ≤ τ 9 m) : zE (d + 1) kX0_left 0 [some (.ref d1), some (.ref t1), some (.int (nI m))] [] Z I J (some (.int (nI (τ 9 m - ρ (14 + m)))), Z, I, J) := by
  have h7 := hW.1.1
  refine BX0_left_0 _ hd ht ?_
  rw [zatI (by omega) (by decide), zatI (by omega) (by decide), (hT.2.1 m hm).2.2.2.2.1, (hC.2.1 m hm).2.2.1, zsub hle]
/-- can he STEP -/
theorem C_canLay (hL : zLY Z t u) {d1 t1 : Nat} (hd : zDy Z d1) (ht : zTx Z t1) {I : zI} (hS : zSx I) (hW : zTW τ Λ) (hT : zCT I t1 τ Λ) (hC : zCD I d1 τ ρ) (hD : zDW τ ρ) {m : Nat} (hm : m < τ 0 0) {x : Int32} :
    (∀ w, 1 ≤ w → w ≤ 4 → x = nI w → zE (d + 2) kX0_canLay 0 [some (.ref d1), some (.ref t1), some (.int (nI m)), some (.int x)] [] Z I J (some (.int (zbi (zcan τ ρ m w))), Z, I, J)) ∧
    (¬ (1 ≤ x ∧ x ≤ 4) → zE (d + 2) kX0_canLay 0 [some (.ref d1), some (.ref t1), some (.int (nI m)), some (.int x)] [] Z I J (some (.int 0), Z, I, J)) := by
  have h7 := hW.1.1
  obtain ⟨-, w1, w2, w3, w4, -⟩ := hW.1
  obtain ⟨p1, p2, p3, p4, p5, p6⟩ := hD.man hm
  obtain ⟨g1, g2, g3, g4⟩ := hC.2.1 m hm
  have l60 := (hW.2.1 m hm).2.2.2.2.1
  have a4 : zat I (d1 + 4) 7 (nI m) = nI (ρ (21 + m)) := by rw [zatI (by omega) (by decide), g4]
  have a1 : zat I (d1 + 1) 7 (nI m) = nI (ρ m) := by rw [zatI (by omega) (by decide), g1]
  have a2 : zat I (d1 + 2) 7 (nI m) = nI (ρ (7 + m)) := by rw [zatI (by omega) (by decide), g2]
  have hl := C_left (d := d) (J := J) hd ht hW hT hC hm p3
  have hst := S_hasStreet (d := d) (J := J) hL ht hS hW hT (x := nI (ρ m)) (y := nI (ρ (7 + m))) (w := x)
  have key : ∀ r : Int32, (ρ (21 + m) ≠ 0 → r = 0) → (¬ ρ (14 + m) < τ 9 m → r = 0) → (ρ (21 + m) = 0 → ρ (14 + m) < τ 9 m → r = zbi ((1 ≤ x ∧ x ≤ 4) ∧ zcor τ (nI (ρ m)) (nI (ρ (7 + m))) ∧ zcor τ (nI (ρ m) + zdx x) (nI (ρ (7 + m)) + zdy x))) → zE (d + 2) kX0_canLay 0 [some (.ref d1), some (.ref t1), some (.int (nI m)), some (.int x)] [] Z I J (some (.int r), Z, I, J) := by
    intro r h1 h2 h3
    refine BX0_canLay_0 _ _ hd ht ⟨fun q => ?_, fun q => ⟨_, hl, fun q2 => ?_, fun q2 => ⟨_, by rw [a1, a2]; exact hst, fun q3 => ?_, fun q3 => ?_⟩⟩⟩
    · rw [a4, zn0 (by omega)] at q; rw [h1 q]
    · rw [show (0 : Int32) = nI 0 from rfl, zle' (by omega) (by decide)] at q2; rw [h2 (by omega)]
    all_goals rw [a4, zn0 (by omega)] at q
    all_goals rw [show (0 : Int32) = nI 0 from rfl, zle' (by omega) (by decide)] at q2
    · rw [h3 q (by omega), q3]
    · rw [h3 q (by omega)]; rw [zbi_ne0] at q3; rw [zbi_t q3]
  refine ⟨fun w hw1 hw4 hx => ?_, fun hx => key 0 (fun _ => rfl) (fun _ => rfl) (fun _ _ => (zbi_f (fun z => hx z.1)).symm)⟩
  subst hx
  have hxi := zin_iff (a := ρ m) (n := τ 0 1) (zdi_b w) (by omega) (by omega) (by omega)
  have hyi := zin_iff (a := ρ (7 + m)) (n := τ 0 2) (zdj_b w) (by omega) (by omega) (by omega)
  refine key _ (fun q => zbi_f (fun z => q z.1)) (fun q => zbi_f (fun z => q z.2.2.2)) (fun q1 q2 => ?_)
  rw [zdxI (by omega), zdyI (by omega)]
  have hin : zcor τ (nI (ρ m)) (nI (ρ (7 + m))) := by
    obtain ⟨a, ha⟩ : ∃ a, τ 0 1 = a + 1 := ⟨τ 0 1 - 1, by omega⟩
    obtain ⟨b, hb⟩ : ∃ b, τ 0 2 = b + 1 := ⟨τ 0 2 - 1, by omega⟩
    unfold zcor
    rw [ha, hb, zsub1, zsub1, zle' (by omega) (by omega), zle' (by omega) (by omega)]
    exact ⟨⟨znn (by omega), by omega⟩, znn (by omega), by omega⟩
  have h14 : (1 : Int32) ≤ nI w ∧ nI w ≤ 4 := by
    rw [show (1 : Int32) = nI 1 from rfl, show (4 : Int32) = nI 4 from rfl, zle' (by decide) (by omega), zle' (by omega) (by decide)]; omega
  by_cases hc : zcan τ ρ m w
  · rw [zbi_t hc, zbi_t ⟨h14, hin, hxi.mpr hc.2.1, hyi.mpr hc.2.2.1⟩]
  · rw [zbi_f hc, zbi_f]
    rintro ⟨-, -, z1, z2⟩
    exact hc ⟨q1, hxi.mp z1, hyi.mp z2, q2⟩
end
