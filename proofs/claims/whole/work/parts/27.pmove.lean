/-! a day, thought of alone: what STEP, WIND, CUT make of it -/
section
variable {τ : Nat → Nat → Nat} {Λ : Nat → Option zLaw} {ρ ρ' : Nat → Nat}
theorem zpX_congr {m k : Nat} (h : ∀ i, i < k → ρ' (30 + (60 * m + i)) = ρ (30 + (60 * m + i))) : zpX τ ρ' m k = zpX τ ρ m k := by
  induction k with
  | zero => rfl
  | succ k ih => simp only [zpX]; rw [ih (fun i hi => h i (by omega)), h k (by omega)]
theorem zpY_congr {m k : Nat} (h : ∀ i, i < k → ρ' (30 + (60 * m + i)) = ρ (30 + (60 * m + i))) : zpY τ ρ' m k = zpY τ ρ m k := by
  induction k with
  | zero => rfl
  | succ k ih => simp only [zpY]; rw [ih (fun i hi => h i (by omega)), h k (by omega)]
theorem zlive_le (hl : ∀ m, m < τ 0 0 → ρ' (14 + m) ≤ ρ (14 + m)) {q : Nat} (h : zlive τ ρ' q) : zlive τ ρ q := ⟨h.1, Nat.lt_of_lt_of_le h.2 (hl _ h.1)⟩
/-- what a man's place asks -/
def zMn (τ : Nat → Nat → Nat) (ρ : Nat → Nat) (m : Nat) : Prop := ρ m < τ 0 1 ∧ ρ (7 + m) < τ 0 2 ∧ ρ (14 + m) ≤ τ 9 m ∧ ρ (21 + m) ≤ 1 ∧ (ρ (21 + m) = 1 → ρ (14 + m) = 0) ∧ (ρ (21 + m) = 0 → (ρ m : Int) = zpX τ ρ m (ρ (14 + m)) ∧ (ρ (7 + m) : Int) = zpY τ ρ m (ρ (14 + m)))
theorem zDW.man (h : zDW τ ρ) {m : Nat} (hm : m < τ 0 0) : zMn τ ρ m := h.1 m hm
theorem zDW_shrink (h : zDW τ ρ) (hk : ∀ k, 29 ≤ k → ρ' k = ρ k) (hl : ∀ m, m < τ 0 0 → ρ' (14 + m) ≤ ρ (14 + m)) (hm : ∀ m, m < τ 0 0 → zMn τ ρ' m) : zDW τ ρ' := by
  have ex : ∀ m i, zpX τ ρ' m i = zpX τ ρ m i := fun m i => zpX_congr fun j _ => hk _ (by omega)
  have ey : ∀ m i, zpY τ ρ' m i = zpY τ ρ m i := fun m i => zpY_congr fun j _ => hk _ (by omega)
  refine ⟨hm, fun m i h1 h2 => ?_, fun m i h1 h2 => ?_, fun q q' h1 h2 => ?_⟩
  · rw [ex, ey]; exact h.2.1 m i h1 (Nat.le_trans h2 (hl m h1))
  · rw [ex, ey, hk _ (by omega), hk _ (by omega), hk _ (by omega), hk 29 (by omega)]; exact h.2.2.1 m i h1 (Nat.lt_of_lt_of_le h2 (hl m h1))
  · rw [hk _ (by omega), hk _ (by omega)]; exact h.2.2.2 q q' (zlive_le hl h1) (zlive_le hl h2)
theorem zlay_i {m w k : Nat} : zlay ρ m w k = if k = 7 + m then ((ρ (7 + m) : Int) + zdj w).toNat else if k = m then ((ρ m : Int) + zdi w).toNat else if k = 14 + m then ρ (14 + m) + 1 else if k = 29 then ρ 29 + 1 else if k = 870 + (60 * m + ρ (14 + m)) then zsn (ρ m) (ρ (7 + m)) w else if k = 450 + (60 * m + ρ (14 + m)) then ρ 29 else if k = 30 + (60 * m + ρ (14 + m)) then w else ρ k := rfl
theorem zlay_x {m w : Nat} (hm : m < 7) : zlay ρ m w m = ((ρ m : Int) + zdi w).toNat := by rw [zlay_i, if_neg (by omega), if_pos rfl]
theorem zlay_x' {m w m' : Nat} (hm : m < 7) (hm' : m' < 7) (h : m' ≠ m) : zlay ρ m w m' = ρ m' := by rw [zlay_i, if_neg (by omega), if_neg (by omega), if_neg (by omega), if_neg (by omega), if_neg (by omega), if_neg (by omega), if_neg (by omega)]
theorem zlay_y {m w : Nat} : zlay ρ m w (7 + m) = ((ρ (7 + m) : Int) + zdj w).toNat := by rw [zlay_i, if_pos rfl]
theorem zlay_y' {m w m' : Nat} (hm : m < 7) (hm' : m' < 7) (h : m' ≠ m) : zlay ρ m w (7 + m') = ρ (7 + m') := by rw [zlay_i, if_neg (by omega), if_neg (by omega), if_neg (by omega), if_neg (by omega), if_neg (by omega), if_neg (by omega), if_neg (by omega)]
theorem zlay_n {m w : Nat} (hm : m < 7) : zlay ρ m w (14 + m) = ρ (14 + m) + 1 := by rw [zlay_i, if_neg (by omega), if_neg (by omega), if_pos rfl]
theorem zlay_n' {m w m' : Nat} (hm : m < 7) (hm' : m' < 7) (h : m' ≠ m) : zlay ρ m w (14 + m') = ρ (14 + m') := by rw [zlay_i, if_neg (by omega), if_neg (by omega), if_neg (by omega), if_neg (by omega), if_neg (by omega), if_neg (by omega), if_neg (by omega)]
theorem zlay_z {m w m' : Nat} (hm : m < 7) (hm' : m' < 7) : zlay ρ m w (21 + m') = ρ (21 + m') := by rw [zlay_i, if_neg (by omega), if_neg (by omega), if_neg (by omega), if_neg (by omega), if_neg (by omega), if_neg (by omega), if_neg (by omega)]
theorem zlay_28 {m w : Nat} (hm : m < 7) : zlay ρ m w 28 = ρ 28 := by rw [zlay_i, if_neg (by omega), if_neg (by omega), if_neg (by omega), if_neg (by omega), if_neg (by omega), if_neg (by omega), if_neg (by omega)]
theorem zlay_29 {m w : Nat} (hm : m < 7) : zlay ρ m w 29 = ρ 29 + 1 := by rw [zlay_i, if_neg (by omega), if_neg (by omega), if_neg (by omega), if_pos rfl]
theorem zlay_w {m w : Nat} (hm : m < 7) (hq : 60 * m + ρ (14 + m) < 420) : zlay ρ m w (30 + (60 * m + ρ (14 + m))) = w := by rw [zlay_i, if_neg (by omega), if_neg (by omega), if_neg (by omega), if_neg (by omega), if_neg (by omega), if_neg (by omega), if_pos rfl]
theorem zlay_w' {m w q : Nat} (hm : m < 7) (hq : q < 420) (h : q ≠ 60 * m + ρ (14 + m)) : zlay ρ m w (30 + q) = ρ (30 + q) := by rw [zlay_i, if_neg (by omega), if_neg (by omega), if_neg (by omega), if_neg (by omega), if_neg (by omega), if_neg (by omega), if_neg (by omega)]
theorem zlay_t {m w : Nat} (hm : m < 7) (hq : 60 * m + ρ (14 + m) < 420) : zlay ρ m w (450 + (60 * m + ρ (14 + m))) = ρ 29 := by rw [zlay_i, if_neg (by omega), if_neg (by omega), if_neg (by omega), if_neg (by omega), if_neg (by omega), if_pos rfl]
theorem zlay_t' {m w q : Nat} (hm : m < 7) (hq : q < 420) (hq0 : 60 * m + ρ (14 + m) < 420) (h : q ≠ 60 * m + ρ (14 + m)) : zlay ρ m w (450 + q) = ρ (450 + q) := by rw [zlay_i, if_neg (by omega), if_neg (by omega), if_neg (by omega), if_neg (by omega), if_neg (by omega), if_neg (by omega), if_neg (by omega)]
theorem zlay_s {m w : Nat} (hm : m < 7) : zlay ρ m w (870 + (60 * m + ρ (14 + m))) = zsn (ρ m) (ρ (7 + m)) w := by rw [zlay_i, if_neg (by omega), if_neg (by omega), if_neg (by omega), if_neg (by omega), if_pos rfl]
theorem zlay_s' {m w q : Nat} (hm : m < 7) (hq0 : 60 * m + ρ (14 + m) < 420) (h : q ≠ 60 * m + ρ (14 + m)) : zlay ρ m w (870 + q) = ρ (870 + q) := by rw [zlay_i, if_neg (by omega), if_neg (by omega), if_neg (by omega), if_neg (by omega), if_neg (by omega), if_neg (by omega), if_neg (by omega)]
theorem zlay_live (hH : zH τ ρ) {m w q : Nat} (hm : m < τ 0 0) (hn : ρ (14 + m) < 60) : zlive τ (zlay ρ m w) q ↔ zlive τ ρ q ∨ q = 60 * m + ρ (14 + m) := by
  have h7 := hH.1
  unfold zlive
  constructor
  · rintro ⟨h1, h2⟩
    by_cases e : q / 60 = m
    · rw [e, zlay_n (by omega)] at h2
      by_cases e2 : q % 60 = ρ (14 + m)
      · right; omega
      · left; exact ⟨h1, by rw [e]; omega⟩
    · rw [zlay_n' (by omega) (by omega) e] at h2; exact Or.inl ⟨h1, h2⟩
  · rintro (⟨h1, h2⟩ | h)
    · refine ⟨h1, ?_⟩
      by_cases e : q / 60 = m
      · rw [e] at h2; rw [e, zlay_n (by omega)]; omega
      · rw [zlay_n' (by omega) (by omega) e]; exact h2
    · have e1 : q / 60 = m := by omega
      rw [e1, zlay_n (by omega)]
      exact ⟨hm, by omega⟩
/-- a STEP keeps the day's order -/
theorem zDW_lay (hW : zTW τ Λ) (h : zDW τ ρ) {m w : Nat} (hm : m < τ 0 0) (hw1 : 1 ≤ w) (hw4 : w ≤ 4) (hc : zcan τ ρ m w) : zDW τ (zlay ρ m w) := by
  have h7 := hW.1.1
  have hH := h.h hW
  obtain ⟨c1, c2, c3, c4⟩ := hc
  obtain ⟨p1, p2, p3, p4, p5, p6⟩ := h.man hm
  have l60 := (hW.2.1 m hm).2.2.2.2.1
  have hn : ρ (14 + m) < 60 := by omega
  have hq0 : 60 * m + ρ (14 + m) < 420 := by omega
  obtain ⟨p7, p8⟩ := p6 c1
  have ex : ∀ m' i, m' < τ 0 0 → i ≤ ρ (14 + m') → zpX τ (zlay ρ m w) m' i = zpX τ ρ m' i := fun m' i h1 h2 => zpX_congr fun j hj => by
    have := hH.2 m' h1
    refine zlay_w' (by omega) (by omega) ?_
    intro e
    have e1 : m' = m := by omega
    subst e1; omega
  have ey : ∀ m' i, m' < τ 0 0 → i ≤ ρ (14 + m') → zpY τ (zlay ρ m w) m' i = zpY τ ρ m' i := fun m' i h1 h2 => zpY_congr fun j hj => by
    have := hH.2 m' h1
    refine zlay_w' (by omega) (by omega) ?_
    intro e
    have e1 : m' = m := by omega
    subst e1; omega
  have ex0 : zpX τ (zlay ρ m w) m (ρ (14 + m) + 1) = zpX τ ρ m (ρ (14 + m)) + zdi w := by
    simp only [zpX]; rw [ex m _ hm (Nat.le_refl _), zlay_w (by omega) hq0]
  have ey0 : zpY τ (zlay ρ m w) m (ρ (14 + m) + 1) = zpY τ ρ m (ρ (14 + m)) + zdj w := by
    simp only [zpY]; rw [ey m _ hm (Nat.le_refl _), zlay_w (by omega) hq0]
  refine ⟨fun m' hm' => ?_, fun m' i hm' hi => ?_, fun m' i hm' hi => ?_, fun q q' h1 h2 => ?_⟩
  · by_cases e : m' = m
    · subst e
      rw [zlay_x (by omega), zlay_y, zlay_n (by omega), zlay_z (by omega) (by omega), ex0, ey0]
      exact ⟨by omega, by omega, by omega, p4, fun z => by omega, fun _ => ⟨by omega, by omega⟩⟩
    · rw [zlay_x' (by omega) (by omega) e, zlay_y' (by omega) (by omega) e, zlay_n' (by omega) (by omega) e, zlay_z (by omega) (by omega), ex m' _ hm' (Nat.le_refl _), ey m' _ hm' (Nat.le_refl _)]
      exact h.1 m' hm'
  · by_cases e : m' = m
    · subst e
      rw [zlay_n (by omega)] at hi
      by_cases e2 : i = ρ (14 + m') + 1
      · subst e2
        rw [ex0, ey0, ← p7, ← p8]; omega
      · rw [ex m' i hm' (by omega), ey m' i hm' (by omega)]; exact h.2.1 m' i hm' (by omega)
    · rw [zlay_n' (by omega) (by omega) e] at hi
      rw [ex m' i hm' hi, ey m' i hm' hi]; exact h.2.1 m' i hm' hi
  · have hl := hH.2 m' hm'
    rw [zlay_29 (by omega)]
    by_cases e : m' = m
    · subst e
      rw [zlay_n (by omega)] at hi
      by_cases e2 : i = ρ (14 + m')
      · subst e2
        rw [zlay_w (by omega) hq0, zlay_s (by omega), zlay_t (by omega) hq0, ex m' _ hm' (Nat.le_refl _), ey m' _ hm' (Nat.le_refl _), ← p7, ← p8]
        exact ⟨hw1, hw4, by simp, by omega⟩
      · rw [zlay_w' (by omega) (by omega) (by omega), zlay_s' (by omega) hq0 (by omega), zlay_t' (by omega) (by omega) hq0 (by omega), ex m' _ hm' (by omega), ey m' _ hm' (by omega)]
        have := h.2.2.1 m' i hm' (by omega)
        exact ⟨this.1, this.2.1, this.2.2.1, by omega⟩
    · rw [zlay_n' (by omega) (by omega) e] at hi
      rw [zlay_w' (by omega) (by omega) (by omega), zlay_s' (by omega) hq0 (by omega), zlay_t' (by omega) (by omega) hq0 (by omega), ex m' _ hm' (by omega), ey m' _ hm' (by omega)]
      have := h.2.2.1 m' i hm' hi
      exact ⟨this.1, this.2.1, this.2.2.1, by omega⟩
  · intro et
    have tm : ∀ q, zlive τ ρ q → ρ (450 + q) < ρ 29 := fun q hq => by
      obtain ⟨a, i, g1, g2, rfl, -⟩ := zlive_own hq
      exact (h.2.2.1 a i g1 g2).2.2.2
    have ne : ∀ q, zlive τ ρ q → q ≠ 60 * m + ρ (14 + m) := fun q hq e => by
      have := hq.2
      have e1 : q / 60 = m := by omega
      rw [e1] at this; omega
    rcases (zlay_live hH hm hn).mp h1 with g1 | rfl
    · rw [zlay_t' (by omega) (zlive_lt hH g1) hq0 (ne q g1)] at et
      rcases (zlay_live hH hm hn).mp h2 with g2 | rfl
      · rw [zlay_t' (by omega) (zlive_lt hH g2) hq0 (ne q' g2)] at et
        exact h.2.2.2 q q' g1 g2 et
      · rw [zlay_t (by omega) hq0] at et; have := tm q g1; omega
    · rw [zlay_t (by omega) hq0] at et
      rcases (zlay_live hH hm hn).mp h2 with g2 | rfl
      · rw [zlay_t' (by omega) (zlive_lt hH g2) hq0 (ne q' g2)] at et
        have := tm q' g2; omega
      · rfl
theorem zunl_i {m k : Nat} : zunl ρ m k = if k = 7 + m then ((ρ (7 + m) : Int) - zdj (ρ (30 + (60 * m + (ρ (14 + m) - 1))))).toNat else if k = m then ((ρ m : Int) - zdi (ρ (30 + (60 * m + (ρ (14 + m) - 1))))).toNat else if k = 14 + m then ρ (14 + m) - 1 else ρ k := rfl
theorem zunl_k {m k : Nat} (h1 : k ≠ 7 + m) (h2 : k ≠ m) (h3 : k ≠ 14 + m) : zunl ρ m k = ρ k := by rw [zunl_i, if_neg h1, if_neg h2, if_neg h3]
theorem zunl_x {m : Nat} (hm : m < 7) : zunl ρ m m = ((ρ m : Int) - zdi (ρ (30 + (60 * m + (ρ (14 + m) - 1))))).toNat := by rw [zunl_i, if_neg (by omega), if_pos rfl]
theorem zunl_y {m : Nat} : zunl ρ m (7 + m) = ((ρ (7 + m) : Int) - zdj (ρ (30 + (60 * m + (ρ (14 + m) - 1))))).toNat := by rw [zunl_i, if_pos rfl]
theorem zunl_n {m : Nat} (hm : m < 7) : zunl ρ m (14 + m) = ρ (14 + m) - 1 := by rw [zunl_i, if_neg (by omega), if_neg (by omega), if_pos rfl]
/-- a WIND keeps it -/
theorem zDW_unl (hW : zTW τ Λ) (h : zDW τ ρ) {m : Nat} (hm : m < τ 0 0) (h0 : ρ (21 + m) = 0) (hn : ρ (14 + m) ≠ 0) : zDW τ (zunl ρ m) := by
  have h7 := hW.1.1
  obtain ⟨p1, p2, p3, p4, p5, p6⟩ := h.man hm
  obtain ⟨p7, p8⟩ := p6 h0
  obtain ⟨k, hk⟩ : ∃ k, ρ (14 + m) = k + 1 := ⟨ρ (14 + m) - 1, by omega⟩
  have hk2 : ∀ j, 29 ≤ j → zunl ρ m j = ρ j := fun j hj => zunl_k (by omega) (by omega) (by omega)
  refine zDW_shrink h hk2 (fun m' hm' => ?_) (fun m' hm' => ?_)
  · by_cases e : m' = m
    · subst e; rw [zunl_n (by omega)]; omega
    · rw [zunl_k (by omega) (by omega) (by omega)]; exact Nat.le_refl _
  · have ex : ∀ i, zpX τ (zunl ρ m) m' i = zpX τ ρ m' i := fun i => zpX_congr fun j _ => hk2 _ (by omega)
    have ey : ∀ i, zpY τ (zunl ρ m) m' i = zpY τ ρ m' i := fun i => zpY_congr fun j _ => hk2 _ (by omega)
    unfold zMn
    rw [ex, ey]
    by_cases e : m' = m
    · subst e
      obtain ⟨x1, x2, y1, y2⟩ := h.2.1 m' k hm' (by omega)
      rw [zunl_x (by omega), zunl_y, zunl_n (by omega), zunl_k (by omega) (by omega) (by omega), hk, show k + 1 - 1 = k by omega]
      rw [hk] at p7 p8
      simp only [zpX] at p7
      simp only [zpY] at p8
      exact ⟨by omega, by omega, by omega, p4, fun z => by omega, fun _ => ⟨by omega, by omega⟩⟩
    · rw [zunl_k (k := m') (by omega) (by omega) (by omega), zunl_k (k := 7 + m') (by omega) (by omega) (by omega), zunl_k (k := 14 + m') (by omega) (by omega) (by omega), zunl_k (k := 21 + m') (by omega) (by omega) (by omega)]
      exact h.man hm'
/-- the day behind a CUT -/
def zlos (ρ : Nat → Nat) (m : Nat) : Nat → Nat := zup (zup ρ (14 + m) 0) (21 + m) 1
theorem zlos_i {m k : Nat} : zlos ρ m k = if k = 21 + m then 1 else if k = 14 + m then 0 else ρ k := rfl
theorem zDW_los (hW : zTW τ Λ) (h : zDW τ ρ) {m : Nat} (hm : m < τ 0 0) : zDW τ (zlos ρ m) := by
  have h7 := hW.1.1
  have hk2 : ∀ j, 29 ≤ j → zlos ρ m j = ρ j := fun j hj => by rw [zlos_i, if_neg (by omega), if_neg (by omega)]
  refine zDW_shrink h hk2 (fun m' hm' => ?_) (fun m' hm' => ?_)
  · by_cases e : m' = m
    · subst e; rw [zlos_i, if_neg (by omega), if_pos rfl]; omega
    · rw [zlos_i, if_neg (by omega), if_neg (by omega)]; exact Nat.le_refl _
  · have ex : ∀ i, zpX τ (zlos ρ m) m' i = zpX τ ρ m' i := fun i => zpX_congr fun j _ => hk2 _ (by omega)
    have ey : ∀ i, zpY τ (zlos ρ m) m' i = zpY τ ρ m' i := fun i => zpY_congr fun j _ => hk2 _ (by omega)
    obtain ⟨p1, p2, p3, p4, p5, p6⟩ := h.man hm'
    unfold zMn
    rw [ex, ey, zlos_i (k := m'), if_neg (by omega), if_neg (by omega), zlos_i (k := 7 + m'), if_neg (by omega), if_neg (by omega)]
    by_cases e : m' = m
    · subst e
      rw [zlos_i (k := 14 + m'), if_neg (by omega), if_pos rfl, zlos_i (k := 21 + m'), if_pos rfl]
      exact ⟨p1, p2, Nat.zero_le _, Nat.le_refl _, fun _ => rfl, fun z => absurd z (by decide)⟩
    · rw [zlos_i (k := 14 + m'), if_neg (by omega), if_neg (by omega), zlos_i (k := 21 + m'), if_neg (by omega), if_neg (by omega)]
      exact ⟨p1, p2, p3, p4, p5, p6⟩
/-- PIECES go: what is next under what -/
theorem zbel_keep {s T v q0 : Nat} (h : zbel τ ρ s T v) (hs : ∀ q, zlive τ ρ q → ρ' (870 + q) = ρ (870 + q)) (ht : ∀ q, zlive τ ρ q → ρ' (450 + q) = ρ (450 + q)) (hl : ∀ q, zlive τ ρ' q ↔ zlive τ ρ q ∧ q ≠ q0) (hv : v ≠ q0 + 1) : zbel τ ρ' s T v := by
  rcases h with ⟨rfl, h⟩ | ⟨q, rfl, h1, h2, h3, h4⟩
  · exact Or.inl ⟨rfl, fun q hq => by
      have g := ((hl q).mp hq).1
      rw [hs q g, ht q g]; exact h q g⟩
  · refine Or.inr ⟨q, rfl, (hl q).mpr ⟨h1, by omega⟩, by rw [hs q h1]; exact h2, by rw [ht q h1]; exact h3, fun q' hq' => ?_⟩
    have g := ((hl q').mp hq').1
    rw [hs q' g, ht q' g, ht q h1]; exact h4 q' g
theorem zbel_drop (hU : zTU τ ρ) {s T v q0 : Nat} (h : zbel τ ρ s T (q0 + 1)) (h' : zbel τ ρ s (ρ (450 + q0)) v) (hs : ∀ q, zlive τ ρ q → ρ' (870 + q) = ρ (870 + q)) (ht : ∀ q, zlive τ ρ q → ρ' (450 + q) = ρ (450 + q)) (hl : ∀ q, zlive τ ρ' q ↔ zlive τ ρ q ∧ q ≠ q0) : zbel τ ρ' s T v := by
  obtain ⟨h1, h2, h3, h4⟩ := zbel_q h
  -- ahead of T and not q0 is ahead of q0
  have sm : ∀ q, zlive τ ρ q → q ≠ q0 → ρ (870 + q) = s → ρ (450 + q) < T → ρ (450 + q) < ρ (450 + q0) := fun q g1 g2 g3 g4 => by
    rcases Nat.lt_or_eq_of_le (h4 q g1 g3 g4) with y | y
    · exact y
    · exact absurd (hU q q0 g1 h1 y) g2
  rcases h' with ⟨rfl, h'⟩ | ⟨q, rfl, g1, g2, g3, g4⟩
  · exact Or.inl ⟨rfl, fun q hq => by
      obtain ⟨e1, e2⟩ := (hl q).mp hq
      rw [hs q e1, ht q e1]
      exact fun e3 e4 => h' q e1 e3 (sm q e1 e2 e3 e4)⟩
  · refine Or.inr ⟨q, rfl, (hl q).mpr ⟨g1, fun e => by subst e; omega⟩, by rw [hs q g1]; exact g2, by rw [ht q g1]; omega, fun q' hq' => ?_⟩
    obtain ⟨e1, e2⟩ := (hl q').mp hq'
    rw [hs q' e1, ht q' e1, ht q g1]
    exact fun e3 e4 => g4 q' e1 e3 (sm q' e1 e2 e3 e4)
/-- only one is next above -/
theorem zbel_one {s s' q q' q0 : Nat} (hU : zTU τ ρ) (h1 : zlive τ ρ q) (h2 : zlive τ ρ q') (e1 : ρ (870 + q) = s) (e2 : ρ (870 + q') = s') (b1 : zbel τ ρ s (ρ (450 + q)) (q0 + 1)) (b2 : zbel τ ρ s' (ρ (450 + q')) (q0 + 1)) : q = q' := by
  obtain ⟨a1, a2, a3, a4⟩ := zbel_q b1
  obtain ⟨c1, c2, c3, c4⟩ := zbel_q b2
  have es : s = s' := by omega
  subst es
  rcases Nat.lt_trichotomy (ρ (450 + q)) (ρ (450 + q')) with g | g | g
  · have := c4 q h1 e1 g; omega
  · exact hU q q' h1 h2 g
  · have := a4 q' h2 e2 g; omega
end
