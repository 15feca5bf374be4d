/-! the class's reader: its beginning and its end -/
def zfoc (a b : Nat) (C : Nat → Nat × Nat × Nat) : Nat → Nat → Option Nat
  | 0, _ => none
  | f + 1, i => if (C i).1 < a ∧ (C i).2.1 < b then zfoc a b C f (i + 1) else some (C i).2.2
/-- the FAULT of a text, or none -/
def zfin (s : zPs) : zRt := match s.1 with
  | .error e => .error e
  | .ok t => match s.2.1 with
    | some q => .error q
    | none => match zfoc (s.2.2.1 0 1) (s.2.2.1 0 2) s.2.2.2.2.2.2 s.2.2.2.2.2.1 0 with
      | some tk => .error (6, tk)
      | none => .ok t
/-- how LONG a man's thread is, in a text that is whole -/
def zt9 (τ : Nat → Nat → Nat) (Λ : Nat → Option zLaw) : Nat → Nat → Nat := fun b m => if b = 9 then (zlgv (Λ 7) (nI (τ 1 m)) (nI (τ 2 m)) (nI m)).toNatClampNeg else τ b m
def ztau0 : Nat → Nat → Nat := fun b k => if b = 0 ∧ (k = 1 ∨ k = 2) then 6 else 0
def zps0 (C : Nat → Nat × Nat × Nat) : zPs := (.ok 0, none, ztau0, fun _ => none, fun _ => 0, 0, C)
theorem zlgv_nI (o : Option zLaw) (x y ra : Int32) : ∃ k, k ≤ 60 ∧ zlgv o x y ra = nI k := by
  cases o with
  | none => exact ⟨30, by decide, rfl⟩
  | some w => exact zhold_nI _
theorem zt9_9 {τ : Nat → Nat → Nat} {Λ : Nat → Option zLaw} (m : Nat) : zt9 τ Λ 9 m ≤ 60 ∧ zlgv (Λ 7) (nI (τ 1 m)) (nI (τ 2 m)) (nI m) = nI (zt9 τ Λ 9 m) := by
  obtain ⟨k, h1, h2⟩ := zlgv_nI (Λ 7) (nI (τ 1 m)) (nI (τ 2 m)) (nI m)
  have : zt9 τ Λ 9 m = k := by unfold zt9; rw [if_pos rfl, h2, zclm (by omega)]
  rw [this, h2]; exact ⟨h1, rfl⟩
theorem zt9_b {τ : Nat → Nat → Nat} {Λ : Nat → Option zLaw} {b : Nat} (hb : b ≠ 9) : zt9 τ Λ b = τ b := by funext m; unfold zt9; rw [if_neg hb]
theorem zhold_eq (v : Int32) : (if 0 < (if v < 60 then v else 60) then (if v < 60 then v else 60) else 0) = zhold v := by
  unfold zhold
  rcases pk_ix v (n := 60) (by decide) with h | h | ⟨j, hj, rfl⟩
  · rw [if_pos (Int32.lt_trans h (by decide)), if_neg (Int32.not_lt.mpr (Int32.le_of_lt h)), if_neg (Int32.not_le.mpr h)]
  · have h6 : ¬ v < 60 := Int32.not_lt.mpr h
    have h0 : (0 : Int32) ≤ v := Int32.le_trans (by decide) h
    rw [if_neg h6, if_pos (by decide), if_pos h0]
    by_cases c : v ≤ 60
    · rw [if_pos c]; exact Int32.le_antisymm h c
    · rw [if_neg c]
  · have h6 : nI j < 60 := by rw [show (60 : Int32) = nI 60 from rfl, zlt (by omega) (by decide)]; exact hj
    rw [if_pos h6, if_pos (znn (by omega)), if_pos (Int32.le_of_lt h6)]
    by_cases c : j = 0
    · rw [c]; rfl
    · rw [if_pos]
      rw [show (0 : Int32) = nI 0 from rfl, zlt (by decide) (by omega)]; omega
section
variable {d : Nat} {Z : zZ} {I I' : zI} {J J' : zJ} {t u t0 sz T T' cn n : Nat} {K P V W N : Nat → Nat} {τ : Nat → Nat → Nat} {Λ : Nat → Option zLaw} {C : Nat → Nat × Nat × Nat} {wo wo' : Option (Nat × Nat)} {o : zO} {r : zRt} {s : zPs}
theorem S_corner0 {t1 a b i j : Nat} (ht : zTx Z t1) (h0 : I t1 0 = nI a) (h1 : I t1 1 = nI b) (ha : a < 100000) (hb : b < 100000) (hi : i < 100000) (hj : j < 100000) : zE d kX6_hasCorner 0 [some (.ref t1), some (.int (nI i)), some (.int (nI j))] [] Z I J (some (.int (zbi (i < a ∧ j < b))), Z, I, J) := by
  refine BX6_hasCorner_0 _ _ ht ⟨fun q => absurd q (zneg (by omega)), fun _ => ⟨fun q => ?_, fun q => ⟨fun q2 => absurd q2 (zneg (by omega)), fun _ => ⟨fun q2 => ?_, fun q2 => ?_⟩⟩⟩⟩
  · rw [h0, zle' (by omega) (by omega)] at q; rw [zbi_f (by omega)]
  · rw [h1, zle' (by omega) (by omega)] at q2; rw [zbi_f (by omega)]
  · rw [h0, zle' (by omega) (by omega)] at q
    rw [h1, zle' (by omega) (by omega)] at q2; rw [zbi_t (by omega)]
theorem C_outErr (hL : zLY Z t u) (ne : ¬ I 2 6 = 0) {a b : Nat} (h0 : I u 0 = nI a) (h1 : I u 1 = nI b) (ha : a < 100000) (hb : b < 100000) (h12 : I 2 12 = nI cn) (hcn : cn ≤ 400) (hc : ∀ i, i < cn → ∃ x y, x < 100000 ∧ y < 100000 ∧ I 27 i = nI x ∧ I 28 i = nI y) : ∀ i, i ≤ cn → zE (d + 1) kX5_findOutside 2 [some (.ref 2), some (.int (nI i))] [] Z I J (none, Z, I, J) := by
  refine zloop _ _ ?_ ?_
  · exact BX5_findOutside_2 _ hL ⟨fun _ => rfl, fun q => absurd (by rw [h12]; exact Int32.le_refl _) q⟩
  · intro i hi ih
    obtain ⟨x, y, q1, q2, q3, q4⟩ := hc i hi
    have nx : zE (d + 1) kX5_findOutside 2 [some (.ref 2), some (.int (nI i + 1))] [] Z I J (none, Z, I, J) := by rw [zadd1]; exact ih
    refine BX5_findOutside_2 _ hL ⟨fun q => ?_, fun _ => ⟨_, by rw [zatI (by omega) (by decide), zatI (by omega) (by decide), q3, q4]; exact S_corner0 (ly_ux hL) h0 h1 ha hb q1 q2, fun _ => nx, fun _ => ⟨I, C_failE hL ne, nx⟩⟩⟩
    exfalso; rw [h12, zle' (by omega) (by omega)] at q; omega
theorem C_outside (hL : zLY Z t u) (hf : I 2 6 = 0) {a b : Nat} (h0 : I u 0 = nI a) (h1 : I u 1 = nI b) (ha : a < 100000) (hb : b < 100000) (hu : u ≠ 2) (h12 : I 2 12 = nI cn) (hcn : cn ≤ 400) (hc : ∀ i, i < cn → (C i).1 < 100000 ∧ (C i).2.1 < 100000 ∧ I 26 i = nI (P (C i).2.2) ∧ I 27 i = nI (C i).1 ∧ I 28 i = nI (C i).2.1) : ∀ f i, i + f = cn → zE (d + 1) kX5_findOutside 2 [some (.ref 2), some (.int (nI i))] [] Z I J (none, Z, (match zfoc a b C f i with | none => I | some tk => zu (zu I 2 6 (nI 6)) 2 1 (nI (P tk))), J) := by
  intro f
  induction f with
  | zero =>
    intro i hi
    obtain rfl : i = cn := by omega
    exact BX5_findOutside_2 _ hL ⟨fun _ => rfl, fun q => absurd (by rw [h12]; exact Int32.le_refl _) q⟩
  | succ f ih =>
    intro i hi
    obtain ⟨q1, q2, q3, q4, q5⟩ := hc i (by omega)
    have nlt : ¬ I 2 12 ≤ nI i := by rw [h12, zle' (by omega) (by omega)]; omega
    have cr : zE d kX6_hasCorner 0 [some (.ref u), some (.int (zat I 27 400 (nI i))), some (.int (zat I 28 400 (nI i)))] [] Z I J (some (.int (zbi ((C i).1 < a ∧ (C i).2.1 < b))), Z, I, J) := by
      rw [zatI (by omega) (by decide), zatI (by omega) (by decide), q4, q5]; exact S_corner0 (ly_ux hL) h0 h1 ha hb q1 q2
    simp only [zfoc]
    by_cases c : (C i).1 < a ∧ (C i).2.1 < b
    · rw [if_pos c]
      exact BX5_findOutside_2 _ hL ⟨fun q => absurd q nlt, fun _ => ⟨_, cr, fun _ => by rw [zadd1]; exact ih (i + 1) (by omega), fun q => absurd c (zbi_eq0.mp q)⟩⟩
    · rw [if_neg c]
      have fl := C_fail (d := d) (Z := Z) (J := J) hL hf (x := nI 6) (y := zat I 26 400 (nI i))
      rw [zatI (by omega) (by decide), q3] at fl
      have U : ∀ k, (zu (zu I 2 6 (nI 6)) 2 1 (nI (P (C i).2.2))) u k = I u k := fun k => by rw [zu_ne hu, zu_ne hu]
      have er := C_outErr (d := d) (J := J) (cn := cn) (I := zu (zu I 2 6 (nI 6)) 2 1 (nI (P (C i).2.2))) hL (by rw [zu_k (by decide), zu_eq]; decide) (by rw [U]; exact h0) (by rw [U]; exact h1) ha hb (by rw [zu_k (by decide), zu_k (by decide)]; exact h12) hcn (fun j hj => ⟨_, _, (hc j hj).1, (hc j hj).2.1, by rw [zu_ne (by decide), zu_ne (by decide)]; exact (hc j hj).2.2.2.1, by rw [zu_ne (by decide), zu_ne (by decide)]; exact (hc j hj).2.2.2.2⟩) (i + 1) (by omega)
      exact BX5_findOutside_2 _ hL ⟨fun q => absurd q nlt, fun _ => ⟨_, cr, fun q => absurd (zbi_f c) q, fun _ => ⟨_, by rw [zatI (by omega) (by decide), q3]; exact fl, by rw [zadd1]; exact er⟩⟩⟩
theorem C_measure (hL : zLY Z t u) (hu : u = 3 ∨ u = 30) (h7 : τ 0 0 ≤ 7) (hm : I u 2 = nI (τ 0 0)) (hd : ∀ m, m < τ 0 0 → I (u + 6) m = nI (τ 1 m) ∧ I (u + 7) m = nI (τ 2 m)) (hl : zLs I u sz (I u 5) (Λ 7)) : ∃ I', zE (d + 2) kX6_measure 0 [some (.ref u), none, none] [] Z I J (none, Z, I', J) ∧ (∀ m, m < τ 0 0 → I' (u + 9) m = nI (zt9 τ Λ 9 m)) ∧ ∀ a, a ≠ u + 4 → a ≠ u + 5 → a ≠ u + 9 → I' a = I a := by
  have loop : ∀ f m (I1 : zI), m + f = τ 0 0 → (∀ a, a ≠ u + 4 → a ≠ u + 5 → a ≠ u + 9 → I1 a = I a) → (∀ j, j < m → I1 (u + 9) j = nI (zt9 τ Λ 9 j)) → ∃ I', zE (d + 2) kX6_measure 2 [some (.ref u), some (.int (nI m)), none] [] Z I1 J (none, Z, I', J) ∧ (∀ m, m < τ 0 0 → I' (u + 9) m = nI (zt9 τ Λ 9 m)) ∧ ∀ a, a ≠ u + 4 → a ≠ u + 5 → a ≠ u + 9 → I' a = I a := by
    intro f
    induction f with
    | zero =>
      intro m I1 hf hI hj
      obtain rfl : m = τ 0 0 := by omega
      exact ⟨I1, BX6_measure_2 _ (ly_ux hL) ⟨fun _ => rfl, fun q => absurd (by rw [hI u (by omega) (by omega) (by omega), hm]; exact Int32.le_refl _) q⟩, hj, hI⟩
    | succ f ih =>
      intro m I1 hf hI hj
      have nl : ¬ I1 u 2 ≤ nI m := by rw [hI u (by omega) (by omega) (by omega), hm, zle' (by omega) (by omega)]; omega
      obtain ⟨d1, d2⟩ := hd m (by omega)
      obtain ⟨z1, z2⟩ := zt9_9 (τ := τ) (Λ := Λ) m
      have put : ∀ (I2 : zI), (∀ a, a ≠ u + 4 → a ≠ u + 5 → I2 a = I1 a) → ∃ I', zE (d + 2) kX6_measure 2 [some (.ref u), some (.int (nI m + 1)), none] [] Z (zpt I2 (u + 9) 7 (nI m) (zlgv (Λ 7) (nI (τ 1 m)) (nI (τ 2 m)) (nI m))) J (none, Z, I', J) ∧ (∀ m, m < τ 0 0 → I' (u + 9) m = nI (zt9 τ Λ 9 m)) ∧ ∀ a, a ≠ u + 4 → a ≠ u + 5 → a ≠ u + 9 → I' a = I a := by
        intro I2 h2
        rw [zptI (by omega) (by decide), z2, zadd1]
        refine ih (m + 1) _ (by omega) (fun a p1 p2 p3 => by rw [zu_ne p3, h2 a p1 p2, hI a p1 p2 p3]) (fun j hj2 => ?_)
        by_cases e : j = m
        · rw [e, zu_eq]
        · rw [zu_k e, h2 (u + 9) (by omega) (by omega)]; exact hj j (by omega)
      cases hz : Λ 7 with
      | none =>
        rw [hz] at hl put
        have hl' : I u 5 = -1 := hl
        obtain ⟨I', k1, k2, k3⟩ := put I1 (fun _ _ _ => rfl)
        exact ⟨I', BX6_measure_2 _ (ly_ux hL) ⟨fun q => absurd q nl, fun _ => ⟨fun q => absurd (by rw [hI u (by omega) (by omega) (by omega)]; exact hl') q, fun _ I4 e4 => by rw [e4]; exact k1⟩⟩, k2, k3⟩
      | some w =>
        rw [hz] at hl put
        obtain ⟨w1, c, w2, w3, w4⟩ := hl
        have ex6 : zat I1 (u + 6) 7 (nI m) = nI (τ 1 m) := by rw [zatI (by omega) (by decide), hI _ (by omega) (by omega) (by omega)]; exact d1
        have ex7 : zat I1 (u + 7) 7 (nI m) = nI (τ 2 m) := by rw [zatI (by omega) (by decide), hI _ (by omega) (by omega) (by omega)]; exact d2
        have e5 : I1 u 5 = nI c := by rw [hI u (by omega) (by omega) (by omega)]; exact w2
        obtain ⟨I2, v1, v2⟩ := C_value (d := d) (J := J) (zTx_l (ly_ux hL)) (I := I1) (c := c) w1 (by rw [hI _ (by omega) (by omega) (by omega), hI (u + 1 + 2) (by omega) (by omega) (by omega)]; exact w4) (nI (τ 1 m)) (nI (τ 2 m)) 0 0 0 (nI m)
        have hc : c < 2147483648 := by have := zclw_le _ _ _ w4; omega
        obtain ⟨I', k1, k2, k3⟩ := put I2 (fun a p1 p2 => v1 a (by simp; omega))
        refine ⟨I', BX6_measure_2 _ (ly_ux hL) ⟨fun q => absurd q nl, fun _ => ⟨fun _ => ⟨_, I2, by rw [e5, ex6, ex7]; exact v2, fun I3 e3 => ?_⟩, fun q => ?_⟩⟩, k2, k3⟩
        · rw [zhold_eq] at e3
          rw [e3]; exact k1
        · exfalso
          rw [e5] at q
          have : ¬ nI c < 0 := zneg hc
          rw [q] at this
          exact this (by decide)
  obtain ⟨I', k1, k2, k3⟩ := loop (τ 0 0) 0 I (by omega) (fun _ _ _ _ => rfl) (fun j hj => absurd hj (Nat.not_lt_zero _))
  exact ⟨I', BX6_measure_0 (ly_ux hL) k1, k2, k3⟩
theorem zXt.ct (h : zXt I J u τ Λ N sz) (hm : ∀ m, m < τ 0 0 → I' (u + 9) m = nI (zt9 τ Λ 9 m)) (hf : ∀ a, u ≤ a → a ≤ u + 16 → a ≠ u + 4 → a ≠ u + 5 → a ≠ u + 9 → I' a = I a) : zCT I' u (zt9 τ Λ) Λ := by
  obtain ⟨x1, x2, x3, x4, x5, x6, x7⟩ := h
  have hl : ∀ {s : Int32} {x : Option zLaw}, zLs I u sz s x → zLC I' (u + 1) s x := fun {s x} h => by
    cases x with
    | none => exact h
    | some w =>
      obtain ⟨-, c, e1, e2, e3⟩ := h
      exact ⟨c, e1, by rw [hf _ (by omega) (by omega) (by omega) (by omega) (by omega), hf (u + 1 + 2) (by omega) (by omega) (by omega) (by omega) (by omega)]; exact e3⟩
  unfold zCT
  rw [zt9_b (b := 0) (by decide), zt9_b (b := 1) (by decide), zt9_b (b := 2) (by decide), zt9_b (b := 3) (by decide), zt9_b (b := 4) (by decide), zt9_b (b := 5) (by decide), zt9_b (b := 6) (by decide), zt9_b (b := 7) (by decide), zt9_b (b := 8) (by decide), hf u (by omega) (by omega) (by omega) (by omega) (by omega)]
  refine ⟨x2, fun m hm' => ?_, fun m i hm' hi => ?_, fun i hi => ?_, hl x6⟩
  · obtain ⟨⟨y1, y2, y3, y4⟩, -, y6⟩ := x3 m hm'
    rw [hf (u + 6) (by omega) (by omega) (by omega) (by omega) (by omega), hf (u + 7) (by omega) (by omega) (by omega) (by omega) (by omega), hf (u + 10) (by omega) (by omega) (by omega) (by omega) (by omega), hf (u + 11) (by omega) (by omega) (by omega) (by omega) (by omega), hf (u + 8) (by omega) (by omega) (by omega) (by omega) (by omega)]
    exact ⟨y1, y2, y3, y4, hm m hm', hl y6⟩
  · rw [hf (u + 12) (by omega) (by omega) (by omega) (by omega) (by omega), hf (u + 13) (by omega) (by omega) (by omega) (by omega) (by omega)]; exact x4 m i hm' hi
  · rw [hf (u + 14) (by omega) (by omega) (by omega) (by omega) (by omega), hf (u + 15) (by omega) (by omega) (by omega) (by omega) (by omega)]; exact x5 i hi
/-- the end of the class's reading -/
theorem C_finish (hL : zLY Z t u) (hu : u = 3 ∨ u = 30) (hP : zrok s.1 → s.2.1 = none → s.2.2.1 0 1 < 100000 ∧ s.2.2.1 0 2 < 100000 ∧ ∀ i, i < s.2.2.2.2.2.1 → (s.2.2.2.2.2.2 i).1 < 100000 ∧ (s.2.2.2.2.2.2 i).2.1 < 100000) (h : zCS I J u K P s) :
    ∃ I' v, zE (d + 3) kX5_finish 0 [some (.ref 2)] [] Z I J (some (.int v), Z, I', J) ∧ zfrT u I I' ∧ match zfin s with
      | .error e => (1 ≤ e.1 ∧ e.1 ≤ 6) ∧ v = nI e.1 ∧ I' 2 1 = nI (P e.2)
      | .ok _ => v = 0 ∧ zCT I' u (zt9 s.2.2.1 s.2.2.2.1) s.2.2.2.1 := by
  obtain ⟨r, wo, τ, Λ, N, cn, C⟩ := s
  dsimp only at hP
  cases r with
  | error e =>
    have h' := h.1.1
    have ne := zCt.e0 h'
    refine ⟨I, nI e.1, BX5_finish_0 hL ⟨fun _ => ⟨fun _ => ⟨fun _ => by rw [h'.2.1], fun q => absurd q ne⟩, fun q => absurd q ne⟩, fun q => absurd q ne⟩, fun _ _ _ _ => rfl, h'.1, rfl, h'.2.2⟩
  | ok t0 =>
    have h0 : I 2 6 = 0 := h.1.1.2.1
    have hl := h.1.2 trivial
    cases wo with
    | some q =>
      obtain ⟨hq, l7, l8⟩ := hl
      have n7 : ¬ I 2 7 = 0 := by rw [l7]; exact nI_ne0 (by have := hq.1; omega) (by have := hq.2; omega)
      have fl := C_fail (d := d + 2) (Z := Z) (J := J) hL h0 (x := I 2 7) (y := I 2 8)
      obtain ⟨I7, e7⟩ : ∃ I7 : zI, I7 = zu (zu I 2 6 (I 2 7)) 2 1 (I 2 8) := ⟨_, rfl⟩
      rw [← e7] at fl
      have s6 : I7 2 6 = nI q.1 := by rw [e7, zu_k (by decide), zu_eq]; exact l7
      have ne : ¬ I7 2 6 = 0 := by rw [s6, ← l7]; exact n7
      exact ⟨I7, nI q.1, BX5_finish_0 hL ⟨fun z => absurd h0 z, fun _ => ⟨fun z => absurd z n7, fun _ => ⟨I7, fl, fun _ => ⟨fun _ => by rw [s6], fun z => absurd z ne⟩, fun z => absurd z ne⟩⟩⟩, fun a p _ _ => by rw [e7, zu_ne p, zu_ne p], hq, rfl, by rw [e7, zu_eq]; exact l8⟩
    | none =>
      have l7 : I 2 7 = 0 := hl
      obtain ⟨p1, p2, p3⟩ := hP trivial rfl
      obtain ⟨⟨cc, c1, c2, c3⟩, sz, -, hx⟩ := h.2 t0 rfl
      dsimp only at c1 c2 c3 hx
      obtain ⟨e1, c3⟩ := c3 rfl
      have ht := h.1.1.1.1
      have x2 := hx.2.1
      have outs := C_outside (d := d + 1) (J := J) (P := P) (C := C) (cn := cn) hL h0 x2.2.1 x2.2.2.1 p1 p2 (by omega) (by rw [← e1]; exact c2) (by omega) (fun i hi => ⟨(p3 i hi).1, (p3 i hi).2, c3 i hi⟩) cn 0 (by omega)
      have ez : zfin (.ok t0, none, τ, Λ, N, cn, C) = match zfoc (τ 0 1) (τ 0 2) C cn 0 with | some tk => .error (6, tk) | none => .ok t0 := rfl
      rw [ez]
      cases hz : zfoc (τ 0 1) (τ 0 2) C cn 0 with
      | some tk =>
        rw [hz] at outs
        have ne : ¬ (zu (zu I 2 6 (nI 6)) 2 1 (nI (P tk))) 2 6 = 0 := by rw [zu_k (by decide), zu_eq]; decide
        exact ⟨_, nI 6, BX5_finish_0 hL ⟨fun z => absurd h0 z, fun _ => ⟨fun _ => ⟨fun z => absurd h0 z, fun _ => ⟨_, BX5_findOutside_0 hL outs, fun _ => by dsimp only; rw [zu_k (by decide), zu_eq], fun z => absurd z ne⟩⟩, fun z => absurd l7 z⟩⟩, fun a p _ _ => by dsimp only; rw [zu_ne p, zu_ne p], (show 1 ≤ 6 ∧ 6 ≤ 6 by decide), rfl, zu_eq⟩
      | none =>
        rw [hz] at outs
        obtain ⟨I6, k1, k2, k3⟩ := C_measure (d := d) (J := J) hL hu hx.1.1 x2.1 (fun m hm => ⟨(hx.2.2.1 m hm).1.1, (hx.2.2.1 m hm).1.2.1⟩) hx.2.2.2.2.2.1
        have s6 : I6 2 6 = 0 := by rw [k3 2 (by omega) (by omega) (by omega)]; exact h0
        exact ⟨I6, 0, BX5_finish_0 hL ⟨fun z => absurd h0 z, fun _ => ⟨fun _ => ⟨fun z => absurd h0 z, fun _ => ⟨_, BX5_findOutside_0 hL outs, fun z => absurd h0 z, fun _ => ⟨I6, k1, by rw [s6]⟩⟩⟩, fun z => absurd l7 z⟩⟩, fun a p _ q => k3 a (by omega) (by omega) (by omega), rfl, hx.ct k2 (fun a p q r1 r2 r3 => k3 a r1 r2 r3)⟩
end
