/-! the class reads -/
section
variable {d : Nat} {Z : zZ} {I I' : zI} {J J' : zJ} {t u L : Nat} {B : Nat → Nat} {C : Nat → Nat × Nat × Nat}
theorem zc10_lt {p : Nat} : ∀ n, (∀ j, j < n → zPdg B (p + j) = true) → zc10 B p n < 10 ^ n := by
  intro n
  induction n with
  | zero => intro _; exact (by decide : 0 < 1)
  | succ n ih =>
    intro h
    have h1 := ih (fun j hj => h j (by omega))
    have h2 := h n (by omega)
    unfold zPdg at h2
    have h3 := of_decide_eq_true h2
    simp only [zc10, Nat.pow_succ]
    omega
theorem zTB_tok (hB : ∀ i, i < L → B i < 256) : zTB (zknd B L) (zvlu B L) (znam B L) := by
  have hp : ∀ i, zpos B L (i + 1) = zte B L (zplc B L i) := fun _ => rfl
  refine ⟨zknd_lt hB, fun i h => ?_, fun i h => ?_⟩
  · unfold zknd zkn at h
    unfold zvlu
    split at h
    · exact absurd h (by decide)
    · rename_i c0
      split at h
      · split at h
        · exact absurd h (by have := zwf_ne (zc32 B (zplc B L i) (zpos B L (i + 1) - zplc B L i)) 17 0; omega)
        · exact absurd h (by decide)
      · rename_i c1
        split at h
        · rename_i c2
          split at h
          · rename_i c3
            have hl : zplc B L i < L := by
              refine Nat.lt_of_not_le fun q => c0 ?_
              rw [hp, zte, if_neg (by omega)]
              exact Nat.le_refl _
            have he : zpos B L (i + 1) = zrn (zPdg B) L (zplc B L i) := by rw [hp, zte, if_pos hl, if_neg c1, if_pos c2]
            have h4 := zc10_lt (B := B) (p := zplc B L i) (zpos B L (i + 1) - zplc B L i) (fun j hj => (zrn_ok (P := zPdg B) (L := L) _ (zplc B L i) rfl).2.2.1 _ (by omega) (by rw [← he]; omega))
            have h5 : (10 : Nat) ^ (zpos B L (i + 1) - zplc B L i) ≤ 10 ^ 4 := Nat.pow_le_pow_right (by decide) c3
            have h6 : (10 : Nat) ^ 4 = 10000 := by decide
            omega
          · exact absurd h (by decide)
        · split at h
          · rename_i hm
            have := zsg_ne hm
            omega
          · exact absurd h (by decide)
  · unfold zknd zkn at h
    unfold znam
    split at h
    · exact absurd h (by decide)
    · rename_i c0
      split at h
      · rename_i c1
        split at h
        · rename_i c3
          have hl : zplc B L i < L := by
            refine Nat.lt_of_not_le fun q => c0 ?_
            rw [hp, zte, if_neg (by omega)]
            exact Nat.le_refl _
          have he : zpos B L (i + 1) = zrn (zPlt B) L (zplc B L i) := by rw [hp, zte, if_pos hl, if_pos c1]
          exact zc32_b c3 (fun j hj => (zrn_ok (P := zPlt B) (L := L) _ (zplc B L i) rfl).2.2.1 _ (by omega) (by rw [← he]; omega))
        · exact absurd h (by decide)
      · split at h
        · split at h <;> exact absurd h (by decide)
        · split at h
          · rename_i hm
            have := zsg_ne hm
            omega
          · exact absurd h (by decide)
/-- what a class's read may write -/
def zfrD (u : Nat) (I I' : zI) : Prop := ∀ a, a ≠ 2 → ¬ (20 ≤ a ∧ a ≤ 29) → ¬ (u ≤ a ∧ a ≤ u + 16) → I' a = I a
theorem zfrD.tr {I'' : zI} (h1 : zfrD u I I') (h2 : zfrD u I' I'') : zfrD u I I'' := fun a p q r => (h2 a p q r).trans (h1 a p q r)
theorem zfrT.D (h : zfrT u I I') : zfrD u I I' := fun a p q r => h a p (by omega) r
theorem C_begin5 (hL : zLY Z t u) (hu : u = 3 ∨ u = 30) (hB : zBc I B L) (hJ : zKc J) (hS : zSg I) : ∃ I' J', zE (d + 8) kX5_begin 0 [some (.ref 2), some (.ref 1), some (.int (nI L))] [] Z I J (none, Z, I', J') ∧ zTC I' J' (zknd B L) (zplc B L) (zvlu B L) (znam B L) ∧ zCS I' J' u (zknd B L) (zplc B L) (zps0 C) ∧ zfrD u I I' ∧ ∀ a, a ≠ 24 → J' a = J a := by
  obtain ⟨I1, J1, a1, a2, a3, a4⟩ := C_split (d := d) hL hB hJ hS
  obtain ⟨I3, e3⟩ : ∃ I3 : zI, I3 = zu (zu (zu (zu (zu (zu (zu I1 u 0 6) u 1 6) u 2 0) u 3 0) u 4 0) u 5 (-1)) (u + 1) 0 0 := ⟨_, rfl⟩
  obtain ⟨I7, e7⟩ : ∃ I7 : zI, I7 = zu (zu (zu (zu I3 2 6 0) 2 7 0) 2 12 0) 2 3 0 := ⟨_, rfl⟩
  obtain ⟨t1, -⟩ := a2 0 (by decide) (fun j hj => absurd hj (Nat.not_lt_zero _))
  have r3 : ∀ a, a ≠ u → a ≠ u + 1 → I3 a = I1 a := fun a p q => by rw [e3, zu_ne q, zu_ne p, zu_ne p, zu_ne p, zu_ne p, zu_ne p, zu_ne p]
  have r7 : ∀ a, a ≠ 2 → I7 a = I3 a := fun a p => by rw [e7, zu_ne p, zu_ne p, zu_ne p, zu_ne p]
  have f3 : I7 2 3 = nI 0 := by rw [e7, zu_eq]; rfl
  obtain ⟨I8, e8⟩ : ∃ I8 : zI, I8 = zu (zu I7 2 4 (nI (zknd B L 0))) 2 5 (nI (zplc B L 0)) := ⟨_, rfl⟩
  have r8 : ∀ a, a ≠ 2 → I8 a = I7 a := fun a p => by rw [e8, zu_ne p, zu_ne p]
  have k8 : ∀ k, k ≠ 4 → k ≠ 5 → I8 2 k = I7 2 k := fun k p q => by rw [e8, zu_k q, zu_k p]
  have row : ∀ a, a ≠ 2 → a ≠ u → a ≠ u + 1 → I8 a = I1 a := fun a p q r => (r8 a p).trans ((r7 a p).trans (r3 a q r))
  have hu2 : u ≠ 2 := by omega
  have fu : ∀ k, I8 u k = I3 u k := fun k => by rw [r8 u hu2, r7 u hu2]
  have g1 : I8 2 6 = 0 := by rw [k8 6 (by decide) (by decide), e7, zu_k (by decide), zu_k (by decide), zu_k (by decide), zu_eq]
  have g2 : I8 2 7 = 0 := by rw [k8 7 (by decide) (by decide), e7, zu_k (by decide), zu_k (by decide), zu_eq]
  have g3 : I8 2 12 = 0 := by rw [k8 12 (by decide) (by decide), e7, zu_k (by decide), zu_eq]
  have g4 : I8 2 3 = nI 0 := by rw [k8 3 (by decide) (by decide)]; exact f3
  refine ⟨I8, J1, BX5_begin_0 _ hL ⟨I1, J1, a1, I3, BX6_clear_0 (ly_ux hL) (fun x1 y1 x2 y2 x3 y3 x4 y4 x5 y5 x6 y6 x7 y7 => by rw [e3, y7, y6, y5, y4, y3, y2, y1]), fun x4 y4 x5 y5 x6 y6 x7 y7 => ⟨I8, BX5_look_0 hL (fun z1 w1 z2 w2 => ?_), rfl⟩⟩, ?_, ⟨⟨⟨⟨by decide, fun j hj => absurd hj (Nat.not_lt_zero _)⟩, g1, g4, ?_, ?_⟩, fun _ => g2⟩, fun t0 et => ?_⟩, ?_, a4⟩
  · have ex : x7 = I7 := by rw [y7, y6, y5, y4, e7]
    rw [ex] at w1
    have ez : z1 = zu I7 2 4 (nI (zknd B L 0)) := by rw [w1, f3, zatI (by decide) (by decide), r7 21 (by decide), r3 21 (by omega) (by omega), t1.1]
    rw [w2, ez, zu_k (by decide), f3, zatI (by decide) (by decide), zu_ne (by decide), r7 22 (by decide), r3 22 (by omega) (by omega), t1.2, e8]
  · intro i hi hg
    rw [row 21 (by decide) (by omega) (by omega), row 22 (by decide) (by omega) (by omega), row 23 (by decide) (by omega) (by omega)]
    exact a2 i hi hg
  · rw [e8, zu_k (by decide), zu_eq]
  · rw [e8, zu_eq]
  · obtain rfl : t0 = 0 := by have := Except.ok.inj et; exact this.symm
    refine ⟨⟨0, Nat.le_refl _, g3, fun _ => ⟨rfl, fun i hi => absurd hi (Nat.not_lt_zero _)⟩⟩, 0, Nat.le_refl _, ⟨(by decide : 0 ≤ 7), (by decide : 0 ≤ 6), fun m hm => absurd hm (Nat.not_lt_zero _)⟩, ⟨?_, ?_, ?_, ?_, ?_⟩, fun m hm => absurd hm (Nat.not_lt_zero _), fun m i hm => absurd hm (Nat.not_lt_zero _), fun i hi => absurd hi (Nat.not_lt_zero _), ?_, ?_⟩
    · rw [fu, e3, zu_a (by omega), zu_k (by decide), zu_k (by decide), zu_k (by decide), zu_eq]; rfl
    · rw [fu, e3, zu_a (by omega), zu_k (by decide), zu_k (by decide), zu_k (by decide), zu_k (by decide), zu_k (by decide), zu_eq]; rfl
    · rw [fu, e3, zu_a (by omega), zu_k (by decide), zu_k (by decide), zu_k (by decide), zu_k (by decide), zu_eq]; rfl
    · rw [fu, e3, zu_a (by omega), zu_k (by decide), zu_eq]; rfl
    · rw [fu, e3, zu_a (by omega), zu_k (by decide), zu_k (by decide), zu_eq]; rfl
    · show I8 u 5 = -1
      rw [fu, e3, zu_a (by omega), zu_eq]
    · rw [r8 (u + 1) (by omega), r7 (u + 1) (by omega), e3, zu_eq]; rfl
  · intro a p q r
    rw [row a p (by omega) (by omega), a3 a (by omega) (by omega) (by omega) (by omega)]
theorem zDy_rr {a k b a' k' b' d1 : Nat} (h : zDy Z d1) (h1 : d1 ≠ a) (h2 : d1 ≠ a') : zDy (zZr (zZr Z a k b) a' k' b') d1 := by
  have e : ∀ j, (zZr (zZr Z a k b) a' k' b').2.2.2 d1 j = Z.2.2.2 d1 j := fun j => by
    show zu (zu Z.2.2.2 a k (some b)) a' k' (some b') d1 j = _
    rw [zu_ne h2, zu_ne h1]
  unfold zDy at h ⊢
  simp only [e]
  exact h
theorem zTx_rr {a k b a' k' b' d1 : Nat} (h : zTx Z d1) (h1 : ¬ (d1 ≤ a ∧ a ≤ d1 + 1)) (h2 : ¬ (d1 ≤ a' ∧ a' ≤ d1 + 1)) : zTx (zZr (zZr Z a k b) a' k' b') d1 := by
  have e : ∀ c, d1 ≤ c → c ≤ d1 + 1 → ∀ j, (zZr (zZr Z a k b) a' k' b').2.2.2 c j = Z.2.2.2 c j := fun c p q j => by
    show zu (zu Z.2.2.2 a k (some b)) a' k' (some b') c j = _
    rw [zu_ne (by omega), zu_ne (by omega)]
  unfold zTx zLw at h ⊢
  simp only [e d1 (Nat.le_refl _) (by omega), e (d1 + 1) (by omega) (Nat.le_refl _)]
  exact h
theorem zLYr_ne : ∀ e ∈ zLYr, ¬ (e.1 = 2 ∧ e.2.1 = 0) ∧ ¬ (e.1 = 0 ∧ e.2.1 = 4) := by decide
/-- the class's texts change places -/
theorem zLY_swap (h : zLY Z t u) : zLY (zZr (zZr Z 2 0 t) 0 4 u) u t := by
  obtain ⟨h1, h2, ⟨a1, a2, a3, a4⟩, ⟨b1, b2, b3, b4, b5⟩, h5⟩ := h
  have e : ∀ c j, ¬ (c = 2 ∧ j = 0) → ¬ (c = 0 ∧ j = 4) → (zZr (zZr Z 2 0 t) 0 4 u).2.2.2 c j = Z.2.2.2 c j := fun c j p q => by
    show zu (zu Z.2.2.2 2 0 (some t)) 0 4 (some u) c j = _
    rw [zu_if, if_neg q, zu_if, if_neg p]
  refine ⟨h1, fun x hx => ?_, ⟨zDy_rr a1 (by decide) (by decide), zDy_rr a2 (by decide) (by decide), fun i hi => ⟨zDy_rr (a3 i hi).1 (by omega) (by omega), ?_⟩, fun i hi => ⟨zDy_rr (a4 i hi).1 (by omega) (by omega), ?_⟩⟩, ⟨zTx_rr b2 (by omega) (by omega), zTx_rr b1 (by omega) (by omega), ?_, ?_, by omega⟩, h5⟩
  · obtain ⟨p, q⟩ := zLYr_ne x hx
    rw [e _ _ p q]; exact h2 x hx
  · rw [e _ _ (by omega) (by omega)]; exact (a3 i hi).2
  · rw [e _ _ (by omega) (by omega)]; exact (a4 i hi).2
  · show zu (zu Z.2.2.2 2 0 (some t)) 0 4 (some u) 0 4 = _
    rw [zu_eq]
  · show zu (zu Z.2.2.2 2 0 (some t)) 0 4 (some u) 2 0 = _
    rw [zu_ne (by decide), zu_eq]
end
