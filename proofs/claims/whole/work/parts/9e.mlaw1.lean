/-! the reference's reader: a TERM, an IF -/
def zfL (s b c : Nat) (I I' : zI) : Prop := (∀ a, a ≠ 420 → ¬ (447 ≤ a ∧ a ≤ 454) → I' a = I a) ∧ (∀ k, k ∉ [11, 12, 13, 14, 41, 47, 51] → I' 420 k = I 420 k) ∧ (∀ a, 447 ≤ a → a ≤ 451 → ∀ j, (j < 130 * s + b ∨ 130 * s + 130 ≤ j) → I' a j = I a j) ∧ ∀ j, (j < 420 * s + c ∨ 420 * s + 420 ≤ j) → I' 452 j = I 452 j ∧ I' 453 j = I 453 j
theorem zfL.rf {s b c : Nat} {I : zI} : zfL s b c I I := ⟨fun _ _ _ => rfl, fun _ _ => rfl, fun _ _ _ _ _ => rfl, fun _ _ => ⟨rfl, rfl⟩⟩
theorem zfL.tr {s b c : Nat} {I I' I'' : zI} (h1 : zfL s b c I I') (h2 : zfL s b c I' I'') : zfL s b c I I'' := ⟨fun a p q => (h2.1 a p q).trans (h1.1 a p q), fun k p => (h2.2.1 k p).trans (h1.2.1 k p), fun a p q j z => (h2.2.2.1 a p q j z).trans (h1.2.2.1 a p q j z), fun j p => ⟨((h2.2.2.2 j p).1).trans (h1.2.2.2 j p).1, ((h2.2.2.2 j p).2).trans (h1.2.2.2 j p).2⟩⟩
theorem zfL.mono {s b b' c c' : Nat} {I I' : zI} (h : zfL s b c I I') (hb : b' ≤ b) (hc : c' ≤ c) : zfL s b' c' I I' := ⟨h.1, h.2.1, fun a p q j z => h.2.2.1 a p q j (by omega), fun j p => h.2.2.2 j (by omega)⟩
theorem zfX.L {s b c : Nat} {I I' : zI} (h : zfX s c zFX I I') : zfL s b c I I' := ⟨fun a p q => h.1 a p (by omega) (by omega) (by omega), fun k hk => h.2.1 k (fun q => hk ((by decide : ∀ x ∈ zFX, x ∈ [11, 12, 13, 14, 41, 47, 51]) k q)), fun a p q j _ => by rw [h.1 a (by omega) (by omega) (by omega) (by omega)], h.2.2⟩
theorem zf4.L {s b c : Nat} {F : List Nat} {I I' : zI} (h : zf4 F I I') (hF : ∀ k ∈ F, k ∈ [11, 12, 13, 14, 41, 47, 51]) : zfL s b c I I' := ⟨fun a p _ => h.1 a p, fun k hk => h.2 k (fun q => hk (hF k q)), fun a p q j _ => by rw [h.1 a (by omega)], fun j _ => by rw [h.1 452 (by decide), h.1 453 (by decide)]; exact ⟨rfl, rfl⟩⟩
theorem zfL.put {s b c : Nat} {I : zI} {a j : Nat} {v : Int32} (h1 : 447 ≤ a) (h2 : a ≤ 451) (h3 : 130 * s + b ≤ j) (h4 : j < 130 * s + 130) : zfL s b c I (zu I a j v) := ⟨fun x p q => zu_ne (by omega), fun k _ => by rw [zu_ne (by omega)], fun x p q i z => by
  by_cases e : x = a
  · subst e; exact zu_k (by omega)
  · rw [zu_ne e], fun i _ => ⟨by rw [zu_ne (by omega)], by rw [zu_ne (by omega)]⟩⟩
theorem zxr_lt {K V : Nat → Nat} {t0 : Nat} {q : Nat × List zTok} (h : zxr K V t0 = .ok q) : t0 < q.1 := by
  unfold zxr at h
  cases hf : 402 - t0 with
  | zero => rw [hf] at h; exact absurd h (by simp [zex])
  | succ f =>
    rw [hf] at h
    simp only [zex] at h
    split at h
    · split at h
      · exact absurd h (by simp)
      · exact zex_le _ _ _ _ _ _ _ h
    · split at h
      · split at h
        · exact absurd h (by simp)
        · exact zex_le _ _ _ _ _ _ _ h
      · split at h
        · split at h
          · exact absurd h (by simp)
          · split at h
            · exact absurd h (by simp)
            · exact zex_le _ _ _ _ _ _ _ h
        · exact absurd h (by simp)
section
variable {d : Nat} {Z : zZ} {I I' : zI} {J : zJ} {t u s c b t0 : Nat} {K P V W X : Nat → Nat} {r : zRt}
theorem zTM.fl (h : zTM I J K P V X) (hf : zfL s b c I I') : zTM I' J K P V X := fun i hi hg => by
  rw [hf.1 423 (by decide) (by decide), hf.1 424 (by decide) (by decide), hf.1 425 (by decide) (by decide)]; exact h i hi hg
/-- a row of the laws' is put: where the reader stands does not change -/
theorem zMt.pt (h : zMt I K P r) {a j : Nat} {v : Int32} (ha : a ≠ 420) : zMt (zu I a j v) K P r := by
  cases r with
  | error e =>
    obtain ⟨h1, h2, h3, t0, h4, h5⟩ := h
    exact ⟨h1, by rw [zu_ne (Ne.symm ha)]; exact h2, by rw [zu_ne (Ne.symm ha)]; exact h3, t0, h4, by rw [zu_ne (Ne.symm ha)]; exact h5⟩
  | ok t0 => exact ⟨h.1, by rw [zu_ne (Ne.symm ha)]; exact h.2.1, by rw [zu_ne (Ne.symm ha)]; exact h.2.2⟩
theorem M_exprR (hL : zLY Z t u) (hT : zTM I J K P V X) (hB : zMB K P V W X) (hs : s < 2) (h : zMt I K P r) (hc : ∀ t0, r = .ok t0 → c ≤ t0 ∧ I 420 47 = nI (420 * s + c) ∧ I 420 12 = 0) : ∃ I', zE (d + 3) kX12_expression 0 [some (.ref 420), none, none] [] Z I J (none, Z, I', J) ∧ zMt I' K P (zrt (zxR K V r)) ∧ zfX s c zFX I I' ∧ ∀ q, zxR K V r = .ok q → I' 420 47 = nI (420 * s + c + q.2.length) ∧ zseg (I' 452) (I' 453) (420 * s + c) q.2 ∧ I' 420 12 = 0 ∧ zpw q.2 0 ∧ c + q.2.length ≤ q.1 := by
  obtain ⟨I1, e1⟩ : ∃ I1 : zI, I1 = zu I 420 51 0 := ⟨_, rfl⟩
  have f1 : zf4 [51] I I1 := by rw [e1]; exact zf4.put (by decide)
  have h1 : zMt I1 K P r := h.f4 f1 (by decide) (by decide) (by decide)
  cases r with
  | error e =>
    exact ⟨I1, BX12_expression_0 hL (fun y ey => by rw [ey, ← e1]; exact BX12_expression_12 _ _ hL ⟨fun _ => rfl, fun _ => ⟨fun _ => rfl, fun q => absurd q h1.e0.1⟩⟩), h1, f1.X.mono (by decide), fun q hq => absurd hq (by simp [zxR])⟩
  | ok t0 =>
    obtain ⟨c1, c2, c3⟩ := hc t0 rfl
    have x12 : I1 420 12 = 0 := by rw [f1.2 12 (by decide)]; exact c3
    have hx : zMx I1 s c 0 [] [] := ⟨by rw [f1.2 47 (by decide)]; exact c2, trivial, by rw [e1, zu_eq]; rfl, trivial, x12⟩
    obtain ⟨I', g1, g2, g3⟩ := M_ex (d := d) (J := J) hL hB hs (402 - t0) true t0 0 [] [] I1 (hT.f4 f1) h1 hx (zxi_0 c1) (by have := h.1.1; omega)
    have e : zxR K V (.ok t0) = zex K V (402 - t0) true t0 0 [] [] := rfl
    rw [e]
    refine ⟨I', BX12_expression_0 hL (fun y ey => by rw [ey, ← e1, x12]; exact BX12_expression_12 _ _ hL ⟨fun q => absurd q (by decide), fun _ => ⟨fun q => absurd h1.2.1 q, fun _ => g1⟩⟩), ?_, (f1.X.mono (by decide)).tr g2, ?_⟩
    · cases hz : zex K V (402 - t0) true t0 0 [] [] with
      | error e => rw [hz] at g3; exact g3
      | ok q => rw [hz] at g3; exact g3.1
    · intro q hq
      rw [hq] at g3
      exact ⟨g3.2.1, g3.2.2.1, g3.2.2.2.1, g3.2.2.2.2.1, g3.2.2.2.2.2.1⟩
/-- a TERM -/
theorem M_term (hL : zLY Z t u) (hT : zTM I J K P V X) (hB : zMB K P V W X) (hs : s < 2) (hb : b < 130) (h41 : I 420 41 = nI (130 * s + b)) (h : zMt I K P r) (hc : ∀ t0, r = .ok t0 → c ≤ t0 ∧ I 420 47 = nI (420 * s + c) ∧ I 420 12 = 0) : ∃ I', zE (d + 4) kX12_term 0 [some (.ref 420)] [] Z I J (none, Z, I', J) ∧ zMt I' K P (zrt (zxR K V r)) ∧ zfL s b c I I' ∧ (I' 420 41 = nI (130 * s + (b + 1)) ∧ I' 447 = I 447 ∧ I' 448 = I 448 ∧ I' 449 = I 449) ∧ ∀ q, zxR K V r = .ok q → (I' 450 (130 * s + b) = nI (420 * s + c) ∧ I' 451 (130 * s + b) = nI (420 * s + c + q.2.length)) ∧ I' 420 47 = nI (420 * s + c + q.2.length) ∧ zseg (I' 452) (I' 453) (420 * s + c) q.2 ∧ I' 420 12 = 0 ∧ zpw q.2 0 ∧ c + q.2.length ≤ q.1 := by
  obtain ⟨B, eB⟩ : ∃ B, B = 130 * s + b := ⟨_, rfl⟩
  have hB2 : B < 260 := by omega
  rw [← eB] at h41
  obtain ⟨I1, e1⟩ : ∃ I1 : zI, I1 = zu I 450 B (I 420 47) := ⟨_, rfl⟩
  have f1 : zfL s b c I I1 := by rw [e1]; exact zfL.put (by decide) (by decide) (by omega) (by omega)
  have h1 : zMt I1 K P r := by rw [e1]; exact h.pt (by decide)
  have x41 : I1 420 41 = nI B := by rw [e1, zu_ne (by decide)]; exact h41
  have v1 : vp_in (I 420 41) 260 := by rw [h41]; exact zvin hB2 (by decide)
  have fin : ∀ (I4 : zI), zMt I4 K P (zrt (zxR K V r)) → zfL s b c I I4 → I4 420 41 = nI B → (I4 447 = I 447 ∧ I4 448 = I 448 ∧ I4 449 = I 449) → ∃ I6, (∀ I5 : zI, I5 = zu I4 451 (I4 420 41).toNatClampNeg (I4 420 47) → ∀ I6' : zI, I6' = zu I5 420 41 ((I5 420 41) + 1) → I6' = I6) ∧ zMt I6 K P (zrt (zxR K V r)) ∧ zfL s b c I I6 ∧ (I6 420 41 = nI (130 * s + (b + 1)) ∧ I6 447 = I 447 ∧ I6 448 = I 448 ∧ I6 449 = I 449) ∧ I6 451 B = I4 420 47 ∧ (∀ a, a ≠ 420 → a ≠ 451 → I6 a = I4 a) ∧ ∀ k, k ≠ 41 → I6 420 k = I4 420 k := by
    intro I4 m1 m2 m3 m4
    have g4 : zfL s b c I4 (zu I4 451 B (I4 420 47)) := zfL.put (by decide) (by decide) (by omega) (by omega)
    have g5 : zf4 [41] (zu I4 451 B (I4 420 47)) (zu (zu I4 451 B (I4 420 47)) 420 41 (nI (B + 1))) := zf4.put (by decide)
    refine ⟨zu (zu I4 451 B (I4 420 47)) 420 41 (nI (B + 1)), fun I5 e5 I6 e6 => ?_, (m1.pt (by decide)).f4 g5 (by decide) (by decide) (by decide), (m2.tr g4).tr (g5.L (by decide)), ⟨by rw [zu_eq, eB]; rfl, by rw [zu_ne (by decide), zu_ne (by decide)]; exact m4.1, by rw [zu_ne (by decide), zu_ne (by decide)]; exact m4.2.1, by rw [zu_ne (by decide), zu_ne (by decide)]; exact m4.2.2⟩, by rw [zu_ne (by decide), zu_eq], fun a p q => by rw [zu_ne p, zu_ne q], fun k p => by rw [zu_k p, zu_ne (by decide)]⟩
    rw [m3, zclm (by omega)] at e5
    have : I5 420 41 = nI B := by rw [e5, zu_ne (by decide)]; exact m3
    rw [e6, this, zadd1, e5]
  cases r with
  | error e =>
    obtain ⟨I6, k1, k2, k3, k4, -⟩ := fin I1 h1 f1 x41 ⟨by rw [e1, zu_ne (by decide)], by rw [e1, zu_ne (by decide)], by rw [e1, zu_ne (by decide)]⟩
    exact ⟨I6, BX12_term_0 hL ⟨v1, fun y ey => by
      rw [h41, zclm (by omega), ← e1] at ey
      rw [ey]
      exact ⟨fun _ => ⟨by rw [x41]; exact zvin hB2 (by decide), fun I5 e5 I6' e6 => by rw [k1 I5 e5 I6' e6]⟩, fun q => absurd q h1.e0.1⟩⟩, k2, k3, k4, fun q hq => absurd hq (by simp [zxR])⟩
  | ok t0 =>
    obtain ⟨c1, c2, c3⟩ := hc t0 rfl
    obtain ⟨I4, g1, g2, g3, g4⟩ := M_exprR (d := d) (c := c) hL (hT.fl f1) hB hs h1 (fun t1 q => by cases q; exact ⟨c1, by rw [e1, zu_ne (by decide)]; exact c2, by rw [e1, zu_ne (by decide)]; exact c3⟩)
    have y41 : I4 420 41 = nI B := by rw [g3.2.1 41 (by decide)]; exact x41
    obtain ⟨I6, k1, k2, k3, k4, k5, k6, k7⟩ := fin I4 g2 (f1.tr g3.L) y41 ⟨by rw [g3.1 447 (by decide) (by decide) (by decide) (by decide), e1, zu_ne (by decide)], by rw [g3.1 448 (by decide) (by decide) (by decide) (by decide), e1, zu_ne (by decide)], by rw [g3.1 449 (by decide) (by decide) (by decide) (by decide), e1, zu_ne (by decide)]⟩
    refine ⟨I6, BX12_term_0 hL ⟨v1, fun y ey => by
      rw [h41, zclm (by omega), ← e1] at ey
      rw [ey]
      exact ⟨fun q => absurd h1.2.1 q, fun _ => ⟨I4, g1, by rw [y41]; exact zvin hB2 (by decide), fun I5 e5 I6' e6 => by rw [k1 I5 e5 I6' e6]⟩⟩⟩, k2, k3, k4, fun q hq => ?_⟩
    obtain ⟨z1, z2, z3, z4, z5⟩ := g4 q hq
    rw [← eB, k7 47 (by decide), k7 12 (by decide), k6 452 (by decide) (by decide), k6 453 (by decide) (by decide), k5]
    exact ⟨⟨by rw [k6 450 (by decide) (by decide), g3.1 450 (by decide) (by decide) (by decide) (by decide), e1, zu_eq]; exact c2, z1⟩, z1, z2, z3, z4, z5⟩
end
