/-! the class: STEP, WIND, HOME on a day -/
section
variable {τ : Nat → Nat → Nat} {Λ : Nat → Option zLaw} {ρ : Nat → Nat}
theorem zlive_t (h : zDW τ ρ) {q : Nat} (hq : zlive τ ρ q) : ρ (450 + q) < ρ 29 := by
  obtain ⟨a, i, g1, g2, rfl, -⟩ := zlive_own hq
  exact (h.2.2.1 a i g1 g2).2.2.2
theorem zlive_s (hW : zTW τ Λ) (h : zDW τ ρ) {q : Nat} (hq : zlive τ ρ q) : ρ (870 + q) < 288 := by
  obtain ⟨a, i, g1, g2, rfl, -⟩ := zlive_own hq
  obtain ⟨w1, w4, e, -⟩ := h.2.2.1 a i g1 g2
  obtain ⟨x1, x2, y1, y2⟩ := h.2.1 a i g1 (by omega)
  have := hW.1
  rw [e]; exact zsn_lt (by omega) (by omega) w1 w4
theorem zlive_w (h : zDW τ ρ) {q : Nat} (hq : zlive τ ρ q) : 1 ≤ ρ (30 + q) ∧ ρ (30 + q) ≤ 4 := by
  obtain ⟨a, i, g1, g2, rfl, -⟩ := zlive_own hq
  exact ⟨(h.2.2.1 a i g1 g2).1, (h.2.2.1 a i g1 g2).2.1⟩
/-- the PIECE that a STEP lays is no live one -/
theorem zlive_new {m : Nat} (hm : ρ (14 + m) < 60) : ¬ zlive τ ρ (60 * m + ρ (14 + m)) := by
  rintro ⟨-, h⟩
  have ez1 : (60 * m + ρ (14 + m)) / 60 = m := by omega
  rw [ez1] at h; omega
theorem zbel_lay (hH : zH τ ρ) {m w s T T' v : Nat} (hm : m < τ 0 0) (hn : ρ (14 + m) < 60) (h : zbel τ ρ s T v) (ht : ∀ q, zlive τ ρ q → ρ (870 + q) = s → (ρ (450 + q) < T ↔ ρ (450 + q) < T')) (hs : s ≠ zsn (ρ m) (ρ (7 + m)) w ∨ T' ≤ ρ 29) : zbel τ (zlay ρ m w) s T' v := by
  have h7 := hH.1
  have hq0 : 60 * m + ρ (14 + m) < 420 := by omega
  have old : ∀ q, zlive τ ρ q → zlay ρ m w (870 + q) = ρ (870 + q) ∧ zlay ρ m w (450 + q) = ρ (450 + q) := fun q hq => by
    have hne : q ≠ 60 * m + ρ (14 + m) := fun e => zlive_new hn (e ▸ hq)
    exact ⟨zlay_s' (by omega) hq0 hne, zlay_t' (by omega) (zlive_lt hH hq) hq0 hne⟩
  -- the new one is out of sight
  have no : ∀ q, zlive τ (zlay ρ m w) q → zlay ρ m w (870 + q) = s → zlay ρ m w (450 + q) < T' → zlive τ ρ q := fun q hq ez1 ez2 => by
    rcases (zlay_live hH hm hn).mp hq with g | rfl
    · exact g
    · rw [zlay_s (by omega)] at ez1
      rw [zlay_t (by omega) hq0] at ez2
      rcases hs with hs | hs
      · exact absurd ez1.symm hs
      · omega
  rcases h with ⟨rfl, h⟩ | ⟨q, rfl, h1, h2, h3, h4⟩
  · refine Or.inl ⟨rfl, fun q hq ez1 ez2 => ?_⟩
    have g := no q hq ez1 ez2
    rw [(old q g).1] at ez1
    rw [(old q g).2] at ez2
    exact h q g ez1 ((ht q g ez1).mpr ez2)
  · refine Or.inr ⟨q, rfl, (zlay_live hH hm hn).mpr (Or.inl h1), by rw [(old q h1).1]; exact h2, by rw [(old q h1).2]; exact (ht q h1 h2).mp h3, fun q' hq' ez1 ez2 => ?_⟩
    have g := no q' hq' ez1 ez2
    rw [(old q' g).1] at ez1
    rw [(old q' g).2] at ez2
    rw [(old q' g).2, (old q h1).2]
    exact h4 q' g ez1 ((ht q' g ez1).mpr ez2)
/-- the last PIECE goes -/
theorem zlive_cut {m : Nat} (hH : zH τ ρ) {ρ' : Nat → Nat} (hm : m < τ 0 0) (hn : ρ (14 + m) ≠ 0) (h1 : ρ' (14 + m) = ρ (14 + m) - 1) (h2 : ∀ m', m' < τ 0 0 → m' ≠ m → ρ' (14 + m') = ρ (14 + m')) (q : Nat) : zlive τ ρ' q ↔ zlive τ ρ q ∧ q ≠ 60 * m + (ρ (14 + m) - 1) := by
  have := hH.2 m hm
  unfold zlive
  by_cases e : q / 60 = m
  · rw [e, h1]
    constructor
    · rintro ⟨a, b⟩; exact ⟨⟨a, by omega⟩, by omega⟩
    · rintro ⟨⟨a, b⟩, c⟩; exact ⟨a, by omega⟩
  · constructor
    · rintro ⟨a, b⟩; rw [h2 _ a e] at b; exact ⟨⟨a, b⟩, by omega⟩
    · rintro ⟨⟨a, b⟩, c⟩; rw [← h2 _ a e] at b; exact ⟨a, b⟩
/-- the uppermost of a street is he on whom nothing lies -/
theorem zbel_top (hW : zTW τ Λ) (hD : zDW τ ρ) (hB : zRB ρ) {q0 v : Nat} (h0 : zlive τ ρ q0) (h : zbel τ ρ (ρ (870 + q0)) (ρ 29) v) : v = q0 + 1 ↔ zct ρ (τ 0 0) (zoth ρ (ρ (870 + q0)) (nI (ρ (450 + q0))) true) = 0 := by
  have hH := hD.h hW
  have ho : ∀ q, zlive τ ρ q → (zoth ρ (ρ (870 + q0)) (nI (ρ (450 + q0))) true q = true ↔ ρ (870 + q) = ρ (870 + q0) ∧ ρ (450 + q0) < ρ (450 + q)) := fun q hq => by
    have b1 := hB (450 + q) (by have := zlive_lt hH hq; omega)
    have b2 := hB (450 + q0) (by have := zlive_lt hH h0; omega)
    unfold zoth
    simp only [if_true, Bool.and_eq_true, decide_eq_true_eq]
    rw [zlt (by omega) (by omega)]
  constructor
  · rintro rfl
    obtain ⟨h1, h2, h3, h4⟩ := zbel_q h
    refine zwt_0 hH (f := fun q => (zoth ρ (ρ (870 + q0)) (nI (ρ (450 + q0))) true q).toNat) fun q hq => ?_
    by_cases e : zoth ρ (ρ (870 + q0)) (nI (ρ (450 + q0))) true q = true
    · obtain ⟨ez1, ez2⟩ := (ho q hq).mp e
      have := h4 q hq ez1 (zlive_t hD hq); omega
    · rw [Bool.not_eq_true] at e; simp [e]
  · intro hz
    have no : ∀ q, zlive τ ρ q → ρ (870 + q) = ρ (870 + q0) → ¬ ρ (450 + q0) < ρ (450 + q) := fun q hq ez1 ez2 => by
      have := zwt_ge (f := fun q => (zoth ρ (ρ (870 + q0)) (nI (ρ (450 + q0))) true q).toNat) hq
      have e := (ho q hq).mpr ⟨ez1, ez2⟩
      simp only [e, Bool.toNat_true] at this
      have hz' : zwt ρ (τ 0 0) (fun q => (zoth ρ (ρ (870 + q0)) (nI (ρ (450 + q0))) true q).toNat) = 0 := hz
      omega
    rcases h with ⟨-, h⟩ | ⟨q, rfl, h1, h2, h3, h4⟩
    · exact absurd (zlive_t hD h0) (h q0 h0 rfl)
    · have a := h4 q0 h0 rfl (zlive_t hD h0)
      have b := no q h1 h2
      rw [hD.2.2.2 q q0 h1 h0 (by omega)]
end
section
variable {d : Nat} {Z : zZ} {J : zJ} {t u : Nat} {τ : Nat → Nat → Nat} {Λ : Nat → Option zLaw} {ρ : Nat → Nat}
set_option maxHeartbeats 2000000 in
theorem C_lay (hL : zLY Z t u) {d1 t1 : Nat} (hd : zDy Z d1) (ht : zTx Z t1) {I : zI} (hS : zSx I) (hx : d1 + 9 < 1000001) (hW : zTW τ Λ) (hT : zCT I t1 τ Λ) (hC : zCD I d1 τ ρ) (hD : zDW τ ρ) (hB : zRB ρ) {m : Nat} (hm : m < τ 0 0) {w : Nat} (hw1 : 1 ≤ w) (hw4 : w ≤ 4) :
    (zcan τ ρ m w → ∃ I', zE (d + 3) kX0_lay 0 [some (.ref d1), some (.ref t1), some (.int (nI m)), some (.int (nI w)), none, none] [] Z I J (none, Z, I', J) ∧ zCD I' d1 τ (zlay ρ m w) ∧ zfd d1 I I') ∧
    (¬ zcan τ ρ m w → zE (d + 3) kX0_lay 0 [some (.ref d1), some (.ref t1), some (.int (nI m)), some (.int (nI w)), none, none] [] Z I J (none, Z, I, J)) := by
  have h7 := hW.1.1
  have hH := hD.h hW
  obtain ⟨-, w1, w2, w3, w4, -⟩ := hW.1
  obtain ⟨p1, p2, p3, p4, p5, p6⟩ := hD.man hm
  obtain ⟨g1, g2, g3, g4⟩ := hC.2.1 m hm
  have l60 := (hW.2.1 m hm).2.2.2.2.1
  have hcl := (C_canLay (d := d) (J := J) hL hd ht hS hW hT hC hD hm (x := nI w)).1 w hw1 hw4 rfl
  refine ⟨fun hc => ?_, fun hc => ?_⟩
  · rw [zbi_t hc] at hcl
    obtain ⟨c1, c2, c3, c4⟩ := id hc
    have hn : ρ (14 + m) < 60 := by omega
    have hq0 : 60 * m + ρ (14 + m) < 420 := by omega
    have hs0 : zsn (ρ m) (ρ (7 + m)) w < 288 := zsn_lt (by omega) (by omega) hw1 hw4
    obtain ⟨v0, hv0, hb0⟩ := hC.2.2.2 _ hs0
    have live := fun q => zlay_live (ρ := ρ) (w := w) (q := q) hH hm hn
    have ne : ∀ q, zlive τ ρ q → q ≠ 60 * m + ρ (14 + m) := fun q hq e => zlive_new hn (e ▸ hq)
    have e29z := zlay_29 (ρ := ρ) (m := m) (w := w) (by omega)
    have kx := zlay_x (ρ := ρ) (m := m) (w := w) (by omega)
    have ky := zlay_y (ρ := ρ) (m := m) (w := w)
    have kn := zlay_n (ρ := ρ) (m := m) (w := w) (by omega)
    have kw := zlay_w (ρ := ρ) (m := m) (w := w) (by omega) hq0
    have kt := zlay_t (ρ := ρ) (m := m) (w := w) (by omega) hq0
    have ks := zlay_s (ρ := ρ) (m := m) (w := w) (by omega)
    have kw' := fun q h1 h2 => zlay_w' (ρ := ρ) (m := m) (w := w) (q := q) (by omega) h1 h2
    have kt' := fun q h1 h2 => zlay_t' (ρ := ρ) (m := m) (w := w) (q := q) (by omega) h1 hq0 h2
    have ks' := fun q h2 => zlay_s' (ρ := ρ) (m := m) (w := w) (q := q) (by omega) hq0 h2
    generalize hs : zsn (ρ m) (ρ (7 + m)) w = s0 at hs0 hv0 hb0 ks
    generalize hQ : 60 * m + ρ (14 + m) = q0 at hq0 live ne kw kt ks kw' kt' ks'
    generalize hX : ((ρ m : Int) + zdi w).toNat = X at kx
    generalize hY : ((ρ (7 + m) : Int) + zdj w).toNat = Y at ky
    have ax : nI (ρ m) + Int32.ofInt (zdi w) = nI X := by rw [zaddI (zdi_b w) c2.1, hX]
    have ay : nI (ρ (7 + m)) + Int32.ofInt (zdj w) = nI Y := by rw [zaddI (zdj_b w) c3.1, hY]
    have y2e : zpc (nI m) (zat I (d1 + 3) 7 (nI m)) = nI (q0 + 1) := by rw [zatI (by omega) (by decide), g3, zpcI, hQ]
    have y3e : zsc (zat I (d1 + 1) 7 (nI m)) (zat I (d1 + 2) 7 (nI m)) (nI w) = nI (zenc s0) := by
      rw [zatI (by omega) (by decide), zatI (by omega) (by decide), g1, g2, zscI (by omega) (by omega) hw1 hw4 (fun h => by rw [h] at c3; simp [zdj] at c3; omega) (fun h => by rw [h] at c2; simp [zdi] at c2; omega), hs]
    have hes := zenc_lt hs0
    generalize hIf : zu (zu (zu (zu (zu (zu (zu (zu (zu I d1 10 (nI (ρ 29 + 1))) (d1 + 5) (q0 + 1) (nI w)) (d1 + 6) (q0 + 1) (nI (zenc s0))) (d1 + 7) (q0 + 1) (nI v0)) (d1 + 8) (q0 + 1) (nI (ρ 29 + 1))) (d1 + 9) (zenc s0) (nI (q0 + 1))) (d1 + 3) m (nI (ρ (14 + m) + 1))) (d1 + 1) m (nI X)) (d1 + 2) m (nI Y) = If
    have f10 : If d1 10 = nI (ρ 29 + 1) := by rw [← hIf]; simp [zu_if]
    have f1 : ∀ j, If (d1 + 1) j = if j = m then nI X else I (d1 + 1) j := fun j => by rw [← hIf]; simp [zu_if]
    have f2 : ∀ j, If (d1 + 2) j = if j = m then nI Y else I (d1 + 2) j := fun j => by rw [← hIf]; simp [zu_if]
    have f3 : ∀ j, If (d1 + 3) j = if j = m then nI (ρ (14 + m) + 1) else I (d1 + 3) j := fun j => by rw [← hIf]; simp [zu_if]
    have f4 : ∀ j, If (d1 + 4) j = I (d1 + 4) j := fun j => by rw [← hIf]; simp [zu_if]
    have f5 : ∀ j, If (d1 + 5) j = if j = q0 + 1 then nI w else I (d1 + 5) j := fun j => by rw [← hIf]; simp [zu_if]
    have f6 : ∀ j, If (d1 + 6) j = if j = q0 + 1 then nI (zenc s0) else I (d1 + 6) j := fun j => by rw [← hIf]; simp [zu_if]
    have f7 : ∀ j, If (d1 + 7) j = if j = q0 + 1 then nI v0 else I (d1 + 7) j := fun j => by rw [← hIf]; simp [zu_if]
    have f8 : ∀ j, If (d1 + 8) j = if j = q0 + 1 then nI (ρ 29 + 1) else I (d1 + 8) j := fun j => by rw [← hIf]; simp [zu_if]
    have f9 : ∀ j, If (d1 + 9) j = if j = zenc s0 then nI (q0 + 1) else I (d1 + 9) j := fun j => by rw [← hIf]; simp [zu_if]
    have hfr : zfd d1 I If := by
      rw [← hIf]
      exact ((((((((zfd.put (by omega) (by omega) (by omega)).tr (zfd.put (by omega) (by omega) (by omega))).tr (zfd.put (by omega) (by omega) (by omega))).tr (zfd.put (by omega) (by omega) (by omega))).tr (zfd.put (by omega) (by omega) (by omega))).tr (zfd.put (by omega) (by omega) (by omega))).tr (zfd.put (by omega) (by omega) (by omega))).tr (zfd.put (by omega) (by omega) (by omega))).tr (zfd.put (by omega) (by omega) (by omega))
    refine ⟨If, BX0_lay_0 _ _ hL hd ht ⟨1, hcl, fun _ y2 ez2 y3 ez3 I4 ez4 I5 ez5 I6 ez6 I7 ez7 I8 ez8 I9 ez9 I10 ez10 => ?_, fun q => absurd q (by decide)⟩, ⟨?_, fun m' hm' => ?_, fun q hq => ?_, fun s hs' => ?_⟩, hfr⟩
    · rw [y2e] at ez2; subst ez2
      rw [y3e] at ez3; subst ez3
      rw [hC.1, zadd1] at ez4
      rw [zptI (by omega) (by decide)] at ez5 ez6 ez7 ez8
      rw [zptI (by omega) (by decide)] at ez9
      rw [zptI (by omega) (by decide), zatI (by omega) (by decide)] at ez10
      subst ez4; subst ez5; subst ez6
      rw [zatI (by omega) (by decide), show ∀ k, zu (zu (zu I d1 10 (nI (ρ 29 + 1))) (d1 + 5) (q0 + 1) (nI w)) (d1 + 6) (q0 + 1) (nI (zenc s0)) (d1 + 9) k = I (d1 + 9) k from fun k => by simp [zu_if], hv0] at ez7
      subst ez7
      rw [show zu (zu (zu (zu I d1 10 (nI (ρ 29 + 1))) (d1 + 5) (q0 + 1) (nI w)) (d1 + 6) (q0 + 1) (nI (zenc s0))) (d1 + 7) (q0 + 1) (nI v0) d1 10 = nI (ρ 29 + 1) by simp [zu_if]] at ez8
      · subst ez8
        subst ez9
        rw [show ∀ k, zu (zu (zu (zu (zu (zu I d1 10 (nI (ρ 29 + 1))) (d1 + 5) (q0 + 1) (nI w)) (d1 + 6) (q0 + 1) (nI (zenc s0))) (d1 + 7) (q0 + 1) (nI v0)) (d1 + 8) (q0 + 1) (nI (ρ 29 + 1))) (d1 + 9) (zenc s0) (nI (q0 + 1)) (d1 + 3) k = I (d1 + 3) k from fun k => by simp [zu_if], g3, zadd1] at ez10
        subst ez10
        refine ⟨_, S_stepX hL ?_ hw4, fun I12 ez12 => ?_⟩
        · intro k hk
          have := hS k hk
          simp only [zu_if]
          repeat rw [if_neg (by omega)]
          exact this
        rw [zptI (by omega) (by decide), zatI (by omega) (by decide), show ∀ k, zu (zu (zu (zu (zu (zu (zu I d1 10 (nI (ρ 29 + 1))) (d1 + 5) (q0 + 1) (nI w)) (d1 + 6) (q0 + 1) (nI (zenc s0))) (d1 + 7) (q0 + 1) (nI v0)) (d1 + 8) (q0 + 1) (nI (ρ 29 + 1))) (d1 + 9) (zenc s0) (nI (q0 + 1))) (d1 + 3) m (nI (ρ (14 + m) + 1)) (d1 + 1) k = I (d1 + 1) k from fun k => by simp [zu_if], g1, ax] at ez12
        subst ez12
        refine ⟨_, S_stepY hL ?_ hw4, fun I14 ez14 => ?_⟩
        · intro k hk
          have := hS k hk
          simp only [zu_if]
          repeat rw [if_neg (by omega)]
          exact this
        rw [zptI (by omega) (by decide), zatI (by omega) (by decide), show ∀ k, zu (zu (zu (zu (zu (zu (zu (zu I d1 10 (nI (ρ 29 + 1))) (d1 + 5) (q0 + 1) (nI w)) (d1 + 6) (q0 + 1) (nI (zenc s0))) (d1 + 7) (q0 + 1) (nI v0)) (d1 + 8) (q0 + 1) (nI (ρ 29 + 1))) (d1 + 9) (zenc s0) (nI (q0 + 1))) (d1 + 3) m (nI (ρ (14 + m) + 1))) (d1 + 1) m (nI X) (d1 + 2) k = I (d1 + 2) k from fun k => by simp [zu_if], g2, ay] at ez14
        rw [ez14, hIf]
    · rw [f10, e29z]
    · rw [f1, f2, f3, f4]
      by_cases e : m' = m
      · subst e
        rw [if_pos rfl, if_pos rfl, if_pos rfl, kx, ky, kn, zlay_z (by omega) (by omega), g4]
        exact ⟨rfl, rfl, rfl, rfl⟩
      · rw [if_neg e, if_neg e, if_neg e, zlay_x' (by omega) (by omega) e, zlay_y' (by omega) (by omega) e, zlay_n' (by omega) (by omega) e, zlay_z (by omega) (by omega)]
        exact hC.2.1 m' hm'
    · rw [f5, f6, f7, f8]
      rcases (live q).mp hq with g | rfl
      · have hne := ne q g
        have hl := zlive_lt hH g
        rw [if_neg (by omega), if_neg (by omega), if_neg (by omega), if_neg (by omega), kw' q hl hne, kt' q hl hne, ks' q hne]
        obtain ⟨r1, r2, r3, v, r4, r5⟩ := hC.2.2.1 q g
        exact ⟨r1, r2, r3, v, r4, zbel_lay hH hm hn r5 (fun _ _ _ => Iff.rfl) (Or.inr (Nat.le_of_lt (zlive_t hD g)))⟩
      · rw [if_pos rfl, if_pos rfl, if_pos rfl, if_pos rfl, kw, kt, ks]
        exact ⟨rfl, rfl, rfl, v0, rfl, zbel_lay hH hm hn hb0 (fun _ _ _ => Iff.rfl) (Or.inr (Nat.le_refl _))⟩
    · rw [f9, e29z]
      by_cases e : s = s0
      · subst e
        refine ⟨q0 + 1, if_pos rfl, Or.inr ⟨q0, rfl, (live q0).mpr (Or.inr rfl), ks, by rw [kt]; omega, fun q' hq' _ h2 => ?_⟩⟩
        rw [kt]; omega
      · rw [if_neg (fun z => e (zenc_inj z))]
        obtain ⟨v, r1, r2⟩ := hC.2.2.2 s hs'
        exact ⟨v, r1, zbel_lay hH hm hn r2 (fun q hq _ => ⟨fun _ => by have := zlive_t hD hq; omega, fun _ => zlive_t hD hq⟩) (Or.inl (by rw [hs]; exact e))⟩
  · rw [zbi_f hc] at hcl
    exact BX0_lay_0 _ _ hL hd ht ⟨0, hcl, fun q => absurd rfl q, fun _ => rfl⟩
end
