/-! what a text that is whole keeps -/
def zG (τ : Nat → Nat → Nat) (cn : Nat) (C : Nat → Nat × Nat × Nat) : Prop :=
  ((2 ≤ τ 0 1 ∧ τ 0 1 ≤ 12) ∧ (2 ≤ τ 0 2 ∧ τ 0 2 ≤ 12) ∧ τ 0 3 ≤ 9999) ∧ (∀ i, i < cn → (C i).1 ≤ 11 ∧ (C i).2.1 ≤ 11) ∧
  (∀ m, m < τ 0 0 → (τ 3 m ≤ 9 ∧ τ 4 m ≤ 6) ∧ ∃ i, i < cn ∧ (C i).1 = τ 1 m ∧ (C i).2.1 = τ 2 m) ∧
  (∀ m i, m < τ 0 0 → i < τ 4 m → ∃ j, j < cn ∧ (C j).1 = τ 5 (6 * m + i) ∧ (C j).2.1 = τ 6 (6 * m + i)) ∧
  ∀ i, i < τ 0 4 → τ 7 i ≤ 10 ∧ τ 8 i ≤ 10
def zGs (s : zPs) : Prop := zrok s.1 → s.2.1 = none → zG s.2.2.1 s.2.2.2.2.2.1 s.2.2.2.2.2.2
theorem zwob_in {V : Nat → Nat} {a b t : Nat} {wo : Option (Nat × Nat)} (h : zwob V a b (.ok t) wo = none) : a ≤ V t ∧ V t ≤ b := by
  have h1 := (zwq_none h).2
  have h2 := of_decide_eq_false h1
  omega
section
variable {K V W : Nat → Nat} {t0 : Nat} {wo : Option (Nat × Nat)} {τ : Nat → Nat → Nat} {Λ : Nat → Option zLaw} {N : Nat → Nat} {cn : Nat} {C : Nat → Nat × Nat × Nat}
theorem zGs_semi {s : zPs} (h : zGs s) : zGs (zsemi K s) := fun h1 h2 => h (zrok_tk h1) h2
theorem zGs_town (h : wo = none → zG τ cn C) : zGs (zpTown K V t0 wo τ Λ N cn C) := by
  intro h1 h2
  obtain ⟨t3, e3⟩ := zrok_ex h1
  obtain ⟨t2, e2, -, -, -⟩ := ztk_ok e3
  obtain ⟨t1, e1, -, -, q2⟩ := ztk_ok e2
  have q1 := (zgn_ok e1).2
  have h2' : zwob V 2 12 (ztk K 3 (zgn t0)) (zwob V 2 12 (zgn t0) wo) = none := h2
  have i2 := zwob_none h2'
  rw [e2] at h2'
  have b2 := zwob_in h2'
  have i1 := zwob_none i2
  rw [e1] at i2
  have b1 := zwob_in i2
  rw [q2, q1] at b2
  rw [q1] at b1
  obtain ⟨⟨-, -, g1⟩, g2, g3, g4, g5⟩ := h i1
  have x1 : (zu (zu τ 0 1 (V (t0 + 1))) 0 2 (V (t0 + 2))) 0 1 = V (t0 + 1) := by rw [zu_k (by decide), zu_eq]
  have x2 : (zu (zu τ 0 1 (V (t0 + 1))) 0 2 (V (t0 + 2))) 0 2 = V (t0 + 2) := zu_eq
  have x3 : ∀ k, k ≠ 1 → k ≠ 2 → (zu (zu τ 0 1 (V (t0 + 1))) 0 2 (V (t0 + 2))) 0 k = τ 0 k := fun k p q => by rw [zu_k q, zu_k p]
  have x4 : ∀ b, b ≠ 0 → (zu (zu τ 0 1 (V (t0 + 1))) 0 2 (V (t0 + 2))) b = τ b := fun b p => by rw [zu_ne p, zu_ne p]
  show zG (zu (zu τ 0 1 (V (t0 + 1))) 0 2 (V (t0 + 2))) cn C
  unfold zG
  rw [x1, x2, x3 3 (by decide) (by decide), x3 0 (by decide) (by decide), x3 4 (by decide) (by decide), x4 3 (by decide), x4 4 (by decide), x4 1 (by decide), x4 2 (by decide), x4 5 (by decide), x4 6 (by decide), x4 7 (by decide), x4 8 (by decide)]
  exact ⟨⟨b1, b2, g1⟩, g2, g3, g4, g5⟩
theorem zGs_seed (h : wo = none → zG τ cn C) : zGs (zpSeed K V t0 wo τ Λ N cn C) := by
  intro h1 h2
  obtain ⟨t2, e2⟩ := zrok_ex h1
  obtain ⟨t1, e1, -, -, q2⟩ := ztk_ok e2
  have q1 := (zgn_ok e1).2
  have h2' : zwob V 0 9999 (zgn t0) wo = none := h2
  have i1 := zwob_none h2'
  rw [e1] at h2'
  have b1 := zwob_in h2'
  rw [q1] at b1
  obtain ⟨⟨g0, g00, g1⟩, g2, g3, g4, g5⟩ := h i1
  have x1 : (zu τ 0 3 (V (t0 + 1))) 0 3 = V (t0 + 1) := zu_eq
  have x3 : ∀ k, k ≠ 3 → (zu τ 0 3 (V (t0 + 1))) 0 k = τ 0 k := fun k p => zu_k p
  have x4 : ∀ b, b ≠ 0 → (zu τ 0 3 (V (t0 + 1))) b = τ b := fun b p => zu_ne p
  show zG (zu τ 0 3 (V (t0 + 1))) cn C
  unfold zG
  rw [x1, x3 1 (by decide), x3 2 (by decide), x3 0 (by decide), x3 4 (by decide), x4 3 (by decide), x4 4 (by decide), x4 1 (by decide), x4 2 (by decide), x4 5 (by decide), x4 6 (by decide), x4 7 (by decide), x4 8 (by decide)]
  exact ⟨⟨g0, g00, b1.2⟩, g2, g3, g4, g5⟩
theorem zGs_dye (h : wo = none → zG τ cn C) : zGs (zpDye K V W t0 wo τ Λ N cn C) := by
  intro h1 h2
  obtain ⟨t3, e3⟩ := zrok_ex h1
  obtain ⟨t2, e2, -, -, -⟩ := ztk_ok e3
  obtain ⟨t1, e1, -, -, q2⟩ := ztk_ok e2
  have q1 := (zgn_ok e1).2
  have h2' : zwob V 0 9 (ztk K 2 (zgn t0)) (zwom W N (τ 0 0) 4 true (zgn t0) wo) = none := h2
  have i2 := zwob_none h2'
  rw [e2] at h2'
  have b2 := zwob_in h2'
  have i1 := zwom_none i2
  rw [q2, q1] at b2
  have g := h i1
  show zG (match zfnd N (W (t0 + 1)) (τ 0 0) 0 with | none => τ | some m => zu τ 3 m (V (t0 + 2))) cn C
  cases zfnd N (W (t0 + 1)) (τ 0 0) 0 with
  | none => exact g
  | some m =>
    obtain ⟨g1, g2, g3, g4, g5⟩ := g
    have x4 : ∀ b, b ≠ 3 → (zu τ 3 m (V (t0 + 2))) b = τ b := fun b p => zu_ne p
    dsimp only
    unfold zG
    rw [x4 0 (by decide), x4 4 (by decide), x4 1 (by decide), x4 2 (by decide), x4 5 (by decide), x4 6 (by decide), x4 7 (by decide), x4 8 (by decide)]
    refine ⟨g1, g2, fun k hk => ⟨⟨?_, (g3 k hk).1.2⟩, (g3 k hk).2⟩, g4, g5⟩
    by_cases e : k = m
    · rw [e, zu_eq]; exact b2.2
    · rw [zu_k e]; exact (g3 k hk).1.1
theorem zGs_pillar (h : wo = none → zG τ cn C) : zGs (zpPillar K V t0 wo τ Λ N cn C) := by
  intro h1 h2
  have h1' : zrok (if τ 0 4 = 6 then .error (2, t0) else ztk K 3 (ztk K 3 (zgn t0))) := h1
  have n6 : τ 0 4 ≠ 6 := fun q => by rw [if_pos q] at h1'; exact h1'
  rw [if_neg n6] at h1'
  obtain ⟨t3, e3⟩ := zrok_ex h1'
  obtain ⟨t2, e2, -, -, -⟩ := ztk_ok e3
  obtain ⟨t1, e1, -, -, q2⟩ := ztk_ok e2
  have q1 := (zgn_ok e1).2
  have h2' : zwob V 0 10 (ztk K 3 (zgn t0)) (zwob V 0 10 (zgn t0) wo) = none := h2
  have i2 := zwob_none h2'
  rw [e2] at h2'
  have b2 := zwob_in h2'
  have i1 := zwob_none i2
  rw [e1] at i2
  have b1 := zwob_in i2
  rw [q2, q1] at b2
  rw [q1] at b1
  obtain ⟨g1, g2, g3, g4, g5⟩ := h i1
  obtain ⟨τ1, eτ⟩ : ∃ τ1 : Nat → Nat → Nat, τ1 = zu (zu (zu τ 7 (τ 0 4) (V (t0 + 1))) 8 (τ 0 4) (V (t0 + 2))) 0 4 (τ 0 4 + 1) := ⟨_, rfl⟩
  have x1 : τ1 0 4 = τ 0 4 + 1 := by rw [eτ, zu_eq]
  have x3 : ∀ k, k ≠ 4 → τ1 0 k = τ 0 k := fun k p => by rw [eτ, zu_k p, zu_ne (by decide), zu_ne (by decide)]
  have x4 : ∀ b, b ≠ 0 → b ≠ 7 → b ≠ 8 → τ1 b = τ b := fun b p q r => by rw [eτ, zu_ne p, zu_ne r, zu_ne q]
  show zG (zu (zu (zu τ 7 (τ 0 4) (V (t0 + 1))) 8 (τ 0 4) (V (t0 + 2))) 0 4 (τ 0 4 + 1)) cn C
  rw [← eτ]
  unfold zG
  rw [x1, x3 0 (by decide), x3 1 (by decide), x3 2 (by decide), x3 3 (by decide), x4 3 (by decide) (by decide) (by decide), x4 4 (by decide) (by decide) (by decide), x4 1 (by decide) (by decide) (by decide), x4 2 (by decide) (by decide) (by decide), x4 5 (by decide) (by decide) (by decide), x4 6 (by decide) (by decide) (by decide)]
  refine ⟨g1, g2, g3, g4, fun i hi => ?_⟩
  rw [eτ, zu_ne (by decide), zu_ne (by decide), zu_ne (b := 8) (by decide)]
  by_cases e : i = τ 0 4
  · rw [e, zu_eq, zu_eq]; exact ⟨b1.2, b2.2⟩
  · rw [zu_k e, zu_k e, zu_ne (by decide)]; exact g5 i (by omega)
theorem zGs_man (h : wo = none → zG τ cn C) : zGs (zpMan K V W t0 wo τ Λ N cn C) := by
  intro h1 h2
  obtain ⟨r0, er⟩ : ∃ r0 : zRt, r0 = if τ 0 0 = 7 then .error (2, t0) else zgn t0 := ⟨_, rfl⟩
  have h1' : zrok (ztk K 3 (ztk K 3 (ztk K 2 r0))) := by rw [er]; exact h1
  have h2' : zwob V 0 11 (ztk K 3 (ztk K 2 r0)) (zwob V 0 11 (ztk K 2 r0) (zwom W N (τ 0 0) 3 false r0 wo)) = none := by rw [er]; exact h2
  obtain ⟨t4, e4⟩ := zrok_ex h1'
  obtain ⟨t3, e3, -, -, -⟩ := ztk_ok e4
  obtain ⟨t2, e2, -, -, q3⟩ := ztk_ok e3
  obtain ⟨t1, e1, -, -, q2⟩ := ztk_ok e2
  have q1 : t1 = t0 + 1 := by
    rw [er] at e1
    split at e1
    · exact absurd e1 (by simp)
    · exact (zgn_ok e1).2
  have i2 := zwob_none h2'
  rw [e3] at h2'
  have b3 := zwob_in h2'
  have i1 := zwom_none (zwob_none i2)
  rw [e2] at i2
  have b2 := zwob_in i2
  rw [q3, q2, q1] at b3
  rw [q2, q1] at b2
  obtain ⟨g1, g2, g3, g4, g5⟩ := h i1
  obtain ⟨τ1, eτ⟩ : ∃ τ1 : Nat → Nat → Nat, τ1 = zu (zu (zu (zu (zu τ 1 (τ 0 0) (V (t0 + 2))) 2 (τ 0 0) (V (t0 + 3))) 3 (τ 0 0) 0) 4 (τ 0 0) 0) 0 0 (τ 0 0 + 1) := ⟨_, rfl⟩
  obtain ⟨C1, eC⟩ : ∃ C1 : Nat → Nat × Nat × Nat, C1 = fun i => if i = cn then (V (t0 + 2), V (t0 + 3), t0 + 2) else C i := ⟨_, rfl⟩
  have c0 : C1 cn = (V (t0 + 2), V (t0 + 3), t0 + 2) := by rw [eC]; exact if_pos rfl
  have c1 : ∀ i, i < cn → C1 i = C i := fun i hi => by rw [eC]; exact if_neg (by omega)
  have x0 : τ1 0 0 = τ 0 0 + 1 := by rw [eτ, zu_eq]
  have x3 : ∀ k, k ≠ 0 → τ1 0 k = τ 0 k := fun k p => by rw [eτ, zu_k p, zu_ne (by decide), zu_ne (by decide), zu_ne (by decide), zu_ne (by decide)]
  have x4 : ∀ b, 5 ≤ b → τ1 b = τ b := fun b p => by rw [eτ, zu_ne (by omega), zu_ne (by omega), zu_ne (by omega), zu_ne (by omega), zu_ne (by omega)]
  have y1 : τ1 1 (τ 0 0) = V (t0 + 2) := by rw [eτ, zu_ne (by decide), zu_ne (by decide), zu_ne (by decide), zu_ne (by decide), zu_eq]
  have y2 : τ1 2 (τ 0 0) = V (t0 + 3) := by rw [eτ, zu_ne (by decide), zu_ne (by decide), zu_ne (by decide), zu_eq]
  have y3 : τ1 3 (τ 0 0) = 0 := by rw [eτ, zu_ne (by decide), zu_ne (by decide), zu_eq]
  have y4 : τ1 4 (τ 0 0) = 0 := by rw [eτ, zu_ne (by decide), zu_eq]
  have w : ∀ b k, 1 ≤ b → k ≠ τ 0 0 → τ1 b k = τ b k := fun b k p q => by
    rw [eτ, zu_ne (by omega)]
    by_cases f4 : b = 4
    · subst f4; rw [zu_k q, zu_ne (by decide), zu_ne (by decide), zu_ne (by decide)]
    · rw [zu_ne f4]
      by_cases f3 : b = 3
      · subst f3; rw [zu_k q, zu_ne (by decide), zu_ne (by decide)]
      · rw [zu_ne f3]
        by_cases f2 : b = 2
        · subst f2; rw [zu_k q, zu_ne (by decide)]
        · rw [zu_ne f2]
          by_cases f1 : b = 1
          · subst f1; rw [zu_k q]
          · rw [zu_ne f1]
  show zG (zu (zu (zu (zu (zu τ 1 (τ 0 0) (V (t0 + 2))) 2 (τ 0 0) (V (t0 + 3))) 3 (τ 0 0) 0) 4 (τ 0 0) 0) 0 0 (τ 0 0 + 1)) (cn + 1) (fun i => if i = cn then (V (t0 + 2), V (t0 + 3), t0 + 2) else C i)
  rw [← eτ, ← eC]
  unfold zG
  rw [x0, x3 1 (by decide), x3 2 (by decide), x3 3 (by decide), x3 4 (by decide), x4 5 (by decide), x4 6 (by decide), x4 7 (by decide), x4 8 (by decide)]
  refine ⟨g1, fun i hi => ?_, fun m hm => ?_, fun m i hm hi => ?_, g5⟩
  · by_cases e : i = cn
    · rw [e, c0]; exact ⟨b2.2, b3.2⟩
    · rw [c1 i (by omega)]; exact g2 i (by omega)
  · by_cases e : m = τ 0 0
    · rw [e, y1, y2, y3, y4]; exact ⟨⟨by decide, by decide⟩, cn, by omega, by rw [c0], by rw [c0]⟩
    · rw [w 1 m (by decide) e, w 2 m (by decide) e, w 3 m (by decide) e, w 4 m (by decide) e]
      obtain ⟨p1, i, p2, p3⟩ := g3 m (by omega)
      exact ⟨p1, i, by omega, by rw [c1 i p2]; exact p3⟩
  · by_cases e : m = τ 0 0
    · rw [e, y4] at hi; exact absurd hi (Nat.not_lt_zero _)
    · rw [w 4 m (by decide) e] at hi
      obtain ⟨j, p1, p2⟩ := g4 m i (by omega) hi
      exact ⟨j, by omega, by rw [c1 j p1]; exact p2⟩
theorem zGs_errand (h : wo = none → zG τ cn C) : zGs (zpErrand K V W t0 wo τ Λ N cn C) := by
  intro h1 h2
  obtain ⟨r0, er⟩ : ∃ r0 : zRt, r0 = if zfulE τ (zmE K W N (τ 0 0) t0) = true then .error (2, t0) else zgn t0 := ⟨_, rfl⟩
  have h1' : zrok (ztk K 3 (ztk K 3 (ztk K 2 r0))) := by rw [er]; exact h1
  have h2' : zwob V 0 11 (ztk K 3 (ztk K 2 r0)) (zwob V 0 11 (ztk K 2 r0) (zwom W N (τ 0 0) 4 true r0 wo)) = none := by rw [er]; exact h2
  obtain ⟨t4, e4⟩ := zrok_ex h1'
  obtain ⟨t3, e3, -, -, -⟩ := ztk_ok e4
  obtain ⟨t2, e2, -, -, q3⟩ := ztk_ok e3
  obtain ⟨t1, e1, -, -, q2⟩ := ztk_ok e2
  have q0 : ¬ zfulE τ (zmE K W N (τ 0 0) t0) = true ∧ t1 = t0 + 1 := by
    rw [er] at e1
    split at e1
    · exact absurd e1 (by simp)
    · exact ⟨‹_›, (zgn_ok e1).2⟩
  obtain ⟨qf, q1⟩ := q0
  have i2 := zwob_none h2'
  rw [e3] at h2'
  have b3 := zwob_in h2'
  have i1 := zwom_none (zwob_none i2)
  rw [e2] at i2
  have b2 := zwob_in i2
  rw [q3, q2, q1] at b3
  rw [q2, q1] at b2
  have g := h i1
  obtain ⟨C1, eC⟩ : ∃ C1 : Nat → Nat × Nat × Nat, C1 = fun i => if i = cn then (V (t0 + 2), V (t0 + 3), t0 + 2) else C i := ⟨_, rfl⟩
  have c0 : C1 cn = (V (t0 + 2), V (t0 + 3), t0 + 2) := by rw [eC]; exact if_pos rfl
  have c1 : ∀ i, i < cn → C1 i = C i := fun i hi => by rw [eC]; exact if_neg (by omega)
  show zG (match zmE K W N (τ 0 0) t0 with | none => τ | some m => zu (zu (zu τ 5 (6 * m + τ 4 m) (V (t0 + 2))) 6 (6 * m + τ 4 m) (V (t0 + 3))) 4 m (τ 4 m + 1)) (match zmE K W N (τ 0 0) t0 with | none => cn | some _ => cn + 1) (fun i => if i = cn then (V (t0 + 2), V (t0 + 3), t0 + 2) else C i)
  rw [← eC]
  cases em : zmE K W N (τ 0 0) t0 with
  | none =>
    obtain ⟨g1, g2, g3, g4, g5⟩ := g
    exact ⟨g1, fun i hi => by rw [c1 i hi]; exact g2 i hi, fun m hm => by
      obtain ⟨p1, i, p2, p3⟩ := g3 m hm
      exact ⟨p1, i, p2, by rw [c1 i p2]; exact p3⟩, fun m i hm hi => by
      obtain ⟨j, p1, p2⟩ := g4 m i hm hi
      exact ⟨j, p1, by rw [c1 j p1]; exact p2⟩, g5⟩
  | some m =>
    rw [em] at qf
    have n6 : τ 4 m ≠ 6 := fun q => qf (decide_eq_true q)
    obtain ⟨g1, g2, g3, g4, g5⟩ := g
    dsimp only
    obtain ⟨τ1, eτ⟩ : ∃ τ1 : Nat → Nat → Nat, τ1 = zu (zu (zu τ 5 (6 * m + τ 4 m) (V (t0 + 2))) 6 (6 * m + τ 4 m) (V (t0 + 3))) 4 m (τ 4 m + 1) := ⟨_, rfl⟩
    rw [← eτ]
    have x4 : ∀ b, b ≠ 4 → b ≠ 5 → b ≠ 6 → τ1 b = τ b := fun b p q r => by rw [eτ, zu_ne p, zu_ne r, zu_ne q]
    have y4 : τ1 4 m = τ 4 m + 1 := by rw [eτ, zu_eq]
    have z4 : ∀ k, k ≠ m → τ1 4 k = τ 4 k := fun k p => by rw [eτ, zu_k p, zu_ne (by decide), zu_ne (by decide)]
    have y5 : τ1 5 (6 * m + τ 4 m) = V (t0 + 2) := by rw [eτ, zu_ne (by decide), zu_ne (by decide), zu_eq]
    have y6 : τ1 6 (6 * m + τ 4 m) = V (t0 + 3) := by rw [eτ, zu_ne (by decide), zu_eq]
    have z5 : ∀ k, k ≠ 6 * m + τ 4 m → τ1 5 k = τ 5 k ∧ τ1 6 k = τ 6 k := fun k p => ⟨by rw [eτ, zu_ne (by decide), zu_ne (by decide), zu_k p], by rw [eτ, zu_ne (by decide), zu_k p, zu_ne (by decide)]⟩
    unfold zG
    rw [x4 0 (by decide) (by decide) (by decide), x4 1 (by decide) (by decide) (by decide), x4 2 (by decide) (by decide) (by decide), x4 3 (by decide) (by decide) (by decide), x4 7 (by decide) (by decide) (by decide), x4 8 (by decide) (by decide) (by decide)]
    refine ⟨g1, fun i hi => ?_, fun k hk => ?_, fun k i hk hi => ?_, g5⟩
    · by_cases e : i = cn
      · rw [e, c0]; exact ⟨b2.2, b3.2⟩
      · rw [c1 i (by omega)]; exact g2 i (by omega)
    · obtain ⟨⟨p0, p1⟩, i, p2, p3⟩ := g3 k hk
      refine ⟨⟨p0, ?_⟩, i, by omega, by rw [c1 i p2]; exact p3⟩
      by_cases e : k = m
      · subst e; rw [y4]; omega
      · rw [z4 k e]; exact p1
    · by_cases e : k = m
      · subst e
        rw [y4] at hi
        by_cases ei : i = τ 4 k
        · subst ei; rw [y5, y6]; exact ⟨cn, by omega, by rw [c0], by rw [c0]⟩
        · obtain ⟨j, p1, p2⟩ := g4 k i hk (by omega)
          rw [(z5 (6 * k + i) (by omega)).1, (z5 (6 * k + i) (by omega)).2]
          exact ⟨j, by omega, by rw [c1 j p1]; exact p2⟩
      · rw [z4 k e] at hi
        have l6 := (g3 k hk).1.2
        obtain ⟨j, p1, p2⟩ := g4 k i hk hi
        have ne : 6 * k + i ≠ 6 * m + τ 4 m := by
          by_cases hmm : m < τ 0 0
          · have := (g3 m hmm).1.2; omega
          · omega
        rw [(z5 (6 * k + i) ne).1, (z5 (6 * k + i) ne).2]
        exact ⟨j, by omega, by rw [c1 j p1]; exact p2⟩
theorem zGs_tell {s : Option (Nat × Nat) × (Nat → Nat → Nat) × (Nat → Option zLaw) × (Nat → Nat) × Nat × (Nat → Nat × Nat × Nat)} (h : s.1 = none → zG s.2.1 s.2.2.2.2.1 s.2.2.2.2.2) : zGs (ztell K V W t0 s) := by
  obtain ⟨wo, τ, Λ, N, cn, C⟩ := s
  dsimp only at h
  unfold ztell
  split
  · exact zGs_semi (zGs_town h)
  · split
    · exact zGs_semi (zGs_man h)
    · split
      · exact fun _ h2 => h (zwom_none h2)
      · split
        · exact fun _ h2 => h h2
        · split
          · exact zGs_semi (zGs_errand h)
          · split
            · exact zGs_semi (zGs_pillar h)
            · split
              · exact zGs_semi (zGs_dye h)
              · split
                · exact zGs_semi (zGs_seed h)
                · exact fun h1 => absurd h1 (by simp [zrok])
theorem zGs_ls : ∀ (f : Nat) (s : zPs), zGs s → zGs (ztls K V W f s) := by
  intro f
  induction f with
  | zero => intro s h; exact h
  | succ f ih =>
    intro s h
    obtain ⟨r, s⟩ := s
    cases r with
    | error e => exact h
    | ok t =>
      simp only [ztls]
      split
      · exact h
      · exact ih _ (zGs_tell (fun q => h trivial q))
theorem zGs_0 : zGs (zps0 C) := fun _ _ => ⟨⟨⟨(by decide : 2 ≤ 6), (by decide : 6 ≤ 12)⟩, ⟨(by decide : 2 ≤ 6), (by decide : 6 ≤ 12)⟩, (by decide : 0 ≤ 9999)⟩, fun i hi => absurd hi (Nat.not_lt_zero _), fun i hi => absurd hi (Nat.not_lt_zero _), fun m i hm => absurd hm (Nat.not_lt_zero _), fun i hi => absurd hi (Nat.not_lt_zero _)⟩
theorem zfoc_no {a b : Nat} : ∀ (f i : Nat), zfoc a b C f i = none → ∀ j, i ≤ j → j < i + f → (C j).1 < a ∧ (C j).2.1 < b := by
  intro f
  induction f with
  | zero => intro i _ j h1 h2; omega
  | succ f ih =>
    intro i h j h1 h2
    simp only [zfoc] at h
    split at h
    · rename_i hc
      by_cases e : j = i
      · rw [e]; exact hc
      · exact ih (i + 1) h j (by omega) (by omega)
    · exact absurd h (by simp)
/-- a text without a FAULT -/
theorem zTW_fin {s : zPs} {t1 : Nat} (h : zfin s = .ok t1) (hG : zGs s) (h1 : s.2.2.1 0 0 ≤ 7 ∧ s.2.2.1 0 4 ≤ 6) (h2 : ∀ m w, (m < s.2.2.1 0 0 ∨ m = 7) → s.2.2.2.1 m = some w → zlwOK w) (h3 : ∀ m, m ≠ 7 → s.2.2.1 0 0 ≤ m → s.2.2.2.1 m = none) : zTW (zt9 s.2.2.1 s.2.2.2.1) s.2.2.2.1 := by
  obtain ⟨r, wo, τ, Λ, N, cn, C⟩ := s
  unfold zfin at h
  cases r with
  | error e => exact absurd h (by simp)
  | ok t =>
    cases wo with
    | some q => exact absurd h (by simp)
    | none =>
      dsimp only at h h1 h2 h3 ⊢
      cases ho : zfoc (τ 0 1) (τ 0 2) C cn 0 with
      | some tk => rw [ho] at h; exact absurd h (by simp)
      | none =>
        have hin := zfoc_no cn 0 ho
        obtain ⟨⟨g1, g2, g3⟩, g4, g5, g6, g7⟩ := hG trivial rfl
        dsimp only at g1 g2 g3 g4 g5 g6 g7
        unfold zTW
        rw [zt9_b (b := 0) (by decide), zt9_b (b := 1) (by decide), zt9_b (b := 2) (by decide), zt9_b (b := 3) (by decide), zt9_b (b := 4) (by decide), zt9_b (b := 5) (by decide), zt9_b (b := 6) (by decide), zt9_b (b := 7) (by decide), zt9_b (b := 8) (by decide)]
        refine ⟨⟨h1.1, g1.1, g1.2, g2.1, g2.2, g3, h1.2⟩, fun m hm => ?_, fun m i hm hi => ?_, g7, fun m w hm hw => ?_⟩
        · obtain ⟨⟨p1, p2⟩, i, p3, p4, p5⟩ := g5 m hm
          obtain ⟨q1, q2⟩ := hin i (Nat.zero_le _) (by omega)
          exact ⟨by omega, by omega, p1, p2, zt9_9 m⟩
        · obtain ⟨j, p3, p4, p5⟩ := g6 m i hm hi
          obtain ⟨q1, q2⟩ := hin j (Nat.zero_le _) (by omega)
          exact ⟨by omega, by omega⟩
        · by_cases e : m < τ 0 0 ∨ m = 7
          · exact h2 m w e hw
          · rw [h3 m (by omega) (by omega)] at hw
            exact absurd hw (by simp)
end
