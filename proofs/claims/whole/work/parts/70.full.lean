/-! all that is, tied on both sides; calls that change the day -/
section
variable {d : Nat} {Z : zZ} {J : zJ} {I I' I1 I2 : zI} {t u v b b' n nx n' nx' kt : Nat} {τ : Nat → Nat → Nat} {Λ : Nat → Option zLaw} {ρ ρ' : Nat → Nat} {hs hs' : Nat → Nat → Nat} {sl sl' : Nat → Option (Nat → Nat)} {A : Nat → Nat × Nat × Bool}
/-- the slots: the class's, the reference's -/
def zSc (I : zI) (τ : Nat → Nat → Nat) (sl : Nat → Option (Nat → Nat)) : Prop := ∀ s, s < 3 → match sl s with
  | none => I 70 s = 0
  | some σ => I 70 s = 1 ∧ zCE I (371 + 10 * s) τ σ
def zSm (I : zI) (sl : Nat → Option (Nat → Nat)) : Prop := ∀ s, s < 3 → match sl s with
  | none => I 471 s = 0
  | some σ => I 471 s = 1 ∧ zRM I 472 (1290 * s) σ
def zSp (τ : Nat → Nat → Nat) (b : Nat) (sl : Nat → Option (Nat → Nat)) : Prop := ∀ s, s < 3 → ∀ σ, sl s = some σ → zRb b σ ∧ zDW τ σ
/-- the tape -/
def zTp (I : zI) : Prop := ∃ (tp : Nat) (by' : Nat → Nat), (tp ≤ 2000 ∧ I 0 1 = nI tp ∧ I 420 2 = nI tp) ∧ ∀ i, i < tp → by' i < 256 ∧ I 1 i = nI (by' i) ∧ I 421 i &&& 255 = nI (by' i)
/-- where the laws' branches and codes lie -/
def zmlv (I : zI) (lo hi cl ch : Nat) : Nat → List (List zTok × List zTok × List zTok) → List zTok → Prop
  | b, [], e => (lo ≤ b ∧ b < hi) ∧ I 447 b = 0 ∧ ∃ f, I 450 b = nI f ∧ I 451 b = nI (f + e.length) ∧ (cl ≤ f ∧ f + e.length ≤ ch) ∧ zseg (I 452) (I 453) f e
  | b, (a1, a2, a3) :: t, e => (lo ≤ b ∧ b < hi) ∧ I 447 b = 1 ∧ (∃ f, I 448 b = nI f ∧ I 449 b = nI (f + a1.length) ∧ I 450 b = nI (f + a1.length + a2.length) ∧ I 451 b = nI (f + a1.length + a2.length + a3.length) ∧ (cl ≤ f ∧ f + a1.length + a2.length + a3.length ≤ ch) ∧ zseg (I 452) (I 453) f a1 ∧ zseg (I 452) (I 453) (f + a1.length) a2 ∧ zseg (I 452) (I 453) (f + a1.length + a2.length) a3) ∧ zmlv I lo hi cl ch (b + 1) t e
theorem zseg_agree {f g f' g' : Nat → Int32} : ∀ (l : List zTok) (c : Nat), (∀ j, c ≤ j → j < c + l.length → f' j = f j ∧ g' j = g j) → zseg f g c l → zseg f' g' c l := by
  intro l
  induction l with
  | nil => intro c _ _; trivial
  | cons q l ih =>
    obtain ⟨k, w⟩ := q
    intro c h hs
    simp only [List.length_cons] at h
    obtain ⟨h1, h2⟩ := h c (Nat.le_refl _) (by omega)
    exact ⟨h1.trans hs.1, h2.trans hs.2.1, ih (c + 1) (fun j p q => h j (by omega) (by omega)) hs.2.2⟩
theorem zmlv_agree {I I' : zI} {lo hi cl ch : Nat} (h1 : ∀ a, 447 ≤ a → a ≤ 451 → ∀ j, lo ≤ j → j < hi → I' a j = I a j) (h2 : ∀ a, 452 ≤ a → a ≤ 453 → ∀ j, cl ≤ j → j < ch → I' a j = I a j) : ∀ (t : List (List zTok × List zTok × List zTok)) (b : Nat) (e : List zTok), zmlv I lo hi cl ch b t e → zmlv I' lo hi cl ch b t e := by
  have sg : ∀ (l : List zTok) (c : Nat), cl ≤ c → c + l.length ≤ ch → zseg (I 452) (I 453) c l → zseg (I' 452) (I' 453) c l := fun l c p q => zseg_agree l c (fun j r s => ⟨h2 452 (by decide) (by decide) j (by omega) (by omega), h2 453 (by decide) (by decide) j (by omega) (by omega)⟩)
  intro t
  induction t with
  | nil =>
    intro b e h
    obtain ⟨⟨p1, p2⟩, p3, f, p4, p5, ⟨p6, p7⟩, p8⟩ := h
    exact ⟨⟨p1, p2⟩, (h1 447 (by decide) (by decide) b p1 p2).trans p3, f, (h1 450 (by decide) (by decide) b p1 p2).trans p4, (h1 451 (by decide) (by decide) b p1 p2).trans p5, ⟨p6, p7⟩, sg _ _ p6 p7 p8⟩
  | cons q t ih =>
    obtain ⟨a1, a2, a3⟩ := q
    intro b e h
    obtain ⟨⟨p1, p2⟩, p3, ⟨f, p4, p5, p6, p7, ⟨p8, p9⟩, p10, p11, p12⟩, p13⟩ := h
    exact ⟨⟨p1, p2⟩, (h1 447 (by decide) (by decide) b p1 p2).trans p3, ⟨f, (h1 448 (by decide) (by decide) b p1 p2).trans p4, (h1 449 (by decide) (by decide) b p1 p2).trans p5, (h1 450 (by decide) (by decide) b p1 p2).trans p6, (h1 451 (by decide) (by decide) b p1 p2).trans p7, ⟨p8, p9⟩, sg _ _ p8 (by omega) p10, sg _ _ (by omega) (by omega) p11, sg _ _ (by omega) (by omega) p12⟩, ih (b + 1) e p13⟩
theorem zmlv_mono {I : zI} {lo hi hi' cl ch ch' : Nat} (h1 : hi ≤ hi') (h2 : ch ≤ ch') : ∀ (t : List (List zTok × List zTok × List zTok)) (b : Nat) (e : List zTok), zmlv I lo hi cl ch b t e → zmlv I lo hi' cl ch' b t e := by
  intro t
  induction t with
  | nil =>
    intro b e h
    obtain ⟨⟨p1, p2⟩, p3, f, p4, p5, ⟨p6, p7⟩, p8⟩ := h
    exact ⟨⟨p1, by omega⟩, p3, f, p4, p5, ⟨p6, by omega⟩, p8⟩
  | cons q t ih =>
    obtain ⟨a1, a2, a3⟩ := q
    intro b e h
    obtain ⟨⟨p1, p2⟩, p3, ⟨f, p4, p5, p6, p7, ⟨p8, p9⟩, p10⟩, p13⟩ := h
    exact ⟨⟨p1, by omega⟩, p3, ⟨f, p4, p5, p6, p7, ⟨p8, by omega⟩, p10⟩, ih (b + 1) e p13⟩
theorem zmlv_w {I : zI} {lo hi cl ch : Nat} (hc : ch ≤ 840) : ∀ (t : List (List zTok × List zTok × List zTok)) (b : Nat) (e : List zTok), zmlv I lo hi cl ch b t e → zmlw I b t e ∧ b + t.length < hi := by
  intro t
  induction t with
  | nil =>
    intro b e h
    obtain ⟨⟨p1, p2⟩, p3, f, p4, p5, ⟨p6, p7⟩, p8⟩ := h
    exact ⟨⟨p3, f, p4, p5, by omega, p8⟩, p2⟩
  | cons q t ih =>
    obtain ⟨a1, a2, a3⟩ := q
    intro b e h
    obtain ⟨⟨p1, p2⟩, p3, ⟨f, p4, p5, p6, p7, ⟨p8, p9⟩, p10, p11, p12⟩, p13⟩ := h
    obtain ⟨q1, q2⟩ := ih (b + 1) e p13
    exact ⟨⟨p3, ⟨f, f + a1.length, f + a1.length + a2.length, p4, p5, p6, p7, rfl, rfl, by omega, p10, p11, p12⟩, q1⟩, by simp only [List.length_cons]; omega⟩
def zHv (I : zI) (v n : Nat) (Λ : Nat → Option zLaw) : Prop := ∀ p w, (p < n ∨ p = 7) → Λ p = some w → ∃ b, I 445 (8 * v + p) = nI b ∧ zmlv I (130 * v) (130 * v + 130) (420 * v) (420 * v + 420) b w.1 w.2
theorem zHv.same {I I' : zI} {v n : Nat} {Λ : Nat → Option zLaw} (h : zHv I v n Λ) (hs : ∀ a, 445 ≤ a → a ≤ 453 → I' a = I a) : zHv I' v n Λ := fun p w h1 h2 => by
  obtain ⟨b, g1, g2⟩ := h p w h1 h2
  exact ⟨b, by rw [hs 445 (by decide) (by decide)]; exact g1, zmlv_agree (fun a p q j _ _ => by rw [hs a (by omega) (by omega)]) (fun a p q j _ _ => by rw [hs a (by omega) (by omega)]) _ _ _ g2⟩
/-- the bytes of the signs' text -/
def zSg (I : zI) : Prop := ∀ j, j < 9 → I 1000006 j = (zbytS.getD 1 []).getD j 0
theorem zSg.same {I I' : zI} (h : zSg I) (hs : I' 1000006 = I 1000006) : zSg I' := fun j hj => by rw [hs]; exact h j hj
def zFul (Z : zZ) (I : zI) (t u v : Nat) (τ : Nat → Nat → Nat) (Λ : Nat → Option zLaw) (b : Nat) (ρ : Nat → Nat) (n nx : Nat) (hs : Nat → Nat → Nat) (sl : Nat → Option (Nat → Nat)) (kt : Nat) (A : Nat → Nat × Nat × Bool) : Prop :=
  zR0 Z I t u v τ Λ b ρ ∧ (zHc I τ n nx hs ∧ zHm I n hs ∧ zHp τ b n nx hs) ∧ (zSc I τ sl ∧ zSm I sl ∧ zSp τ b sl) ∧ zTd I (τ 0 0) kt A ∧ zDr I ∧ zw I ∧ zTp I ∧ I 0 2 = I 420 17 ∧ zHv I v (τ 0 0) Λ ∧ zSg I
theorem zSc.same (h : zSc I τ sl) (h1 : ∀ a, a = 70 ∨ 371 ≤ a ∧ a ≤ 400 → I' a = I a) : zSc I' τ sl := by
  intro s hs
  have := h s hs
  cases e : sl s with
  | none => rw [e] at this; dsimp only at this ⊢; rw [h1 70 (Or.inl rfl)]; exact this
  | some σ => rw [e] at this; dsimp only at this ⊢; rw [h1 70 (Or.inl rfl)]; exact ⟨this.1, this.2.same fun a h2 h3 => h1 a (Or.inr (by omega))⟩
theorem zSm.same (h : zSm I sl) (h1 : I' 471 = I 471) (h2 : I' 472 = I 472) : zSm I' sl := by
  intro s hs
  have := h s hs
  cases e : sl s with
  | none => rw [e] at this; dsimp only at this ⊢; rw [h1]; exact this
  | some σ => rw [e] at this; dsimp only at this ⊢; rw [h1]; exact ⟨this.1, fun k hk => by rw [h2]; exact this.2 k hk⟩
theorem zSp.mono (h : zSp τ b sl) (hb : b ≤ b') : zSp τ b' sl := fun s hs σ e => ⟨(h s hs σ e).1.mono hb, (h s hs σ e).2⟩
theorem zTp.same (h : zTp I) (h0 : I' 0 = I 0) (h1 : I' 1 = I 1) (h2 : I' 421 = I 421) (h3 : I' 420 2 = I 420 2) : zTp I' := by
  obtain ⟨tp, bb, ⟨a1, a2, a3⟩, a4⟩ := h
  exact ⟨tp, bb, ⟨a1, by rw [h0]; exact a2, h3.trans a3⟩, fun i hi => by rw [h1, h2]; exact a4 i hi⟩
theorem zTd.same {n k : Nat} (h : zTd I n k A) (h1 : ∀ a, 415 ≤ a → a ≤ 418 → I' a = I a) (h2 : I' 420 69 = I 420 69) (h3 : ∀ a, 468 ≤ a → a ≤ 470 → I' a = I a) : zTd I' n k A := by
  obtain ⟨⟨a1, a2, a3⟩, a4⟩ := h
  refine ⟨⟨a1, by rw [h1 415 (by decide) (by decide)]; exact a2, h2.trans a3⟩, fun i hi => ?_⟩
  rw [h1 416 (by decide) (by decide), h1 417 (by decide) (by decide), h1 418 (by decide) (by decide), h3 468 (by decide) (by decide), h3 469 (by decide) (by decide), h3 470 (by decide) (by decide)]
  exact a4 i hi
theorem zDr.same (h : zDr I) (h1 : I' 432 = I 432) (h2 : I' 433 = I 433) : zDr I' := fun k hk => by rw [h1, h2]; exact h k hk
theorem zFul.sc (h : zFul Z I t u v τ Λ b ρ n nx hs sl kt A) (h' : zscr I I') : zFul Z I' t u v τ Λ b ρ n nx hs sl kt A := by
  obtain ⟨a1, ⟨a2, a3, a4⟩, ⟨a5, a6, a7⟩, a8, a9, a10, a11, a12⟩ := h
  have row : ∀ a, (a = 0 ∨ a = 1 ∨ a = 67 ∨ a = 70 ∨ 71 ≤ a ∧ a ≤ 400 ∨ a = 421 ∨ a = 432 ∨ a = 433 ∨ 445 ≤ a ∧ a ≤ 453 ∨ a = 471 ∨ a = 472) → I' a = I a := fun a ha => h'.1 a (zsc_n a (by omega) (by omega) (by omega) (by omega) (by omega)) (by omega) (by omega)
  refine ⟨a1.sc h', ⟨a2.same a4.1.2 (row 67 (by omega)) (fun a h1 h2 => row a (by omega)), a3.same (h'.2.1 58 (by decide) (by decide) (by decide)) (h'.1 460 (by decide) (by decide) (by decide)), a4⟩, ⟨a5.same (fun a h1 => row a (by omega)), a6.same (row 471 (by omega)) (row 472 (by omega)), a7⟩, a8.sc h', a9.same (row 432 (by omega)) (row 433 (by omega)), h'.2.2 a10, a11.same (row 0 (by omega)) (row 1 (by omega)) (row 421 (by omega)) (h'.2.1 2 (by decide) (by decide) (by decide)), ?_, a12.2.1.same (fun a p q => row a (by omega)), a12.2.2.same (h'.1 1000006 (by decide) (by decide) (by decide))⟩
  rw [row 0 (by omega), h'.2.1 17 (by decide) (by decide) (by decide)]; exact a12.1
theorem zFul.up (h : zFul Z I t u v τ Λ b ρ n nx hs sl kt A) (hb : b ≤ b') (hb' : b' < 500000000) : zFul Z I t u v τ Λ b' ρ n nx hs sl kt A := by
  obtain ⟨⟨⟨r1, -⟩, r2, r3, r4, r5, r6, r7, r8⟩, ⟨a2, a3, a4⟩, ⟨a5, a6, a7⟩, rest⟩ := h
  exact ⟨⟨⟨r1, hb'⟩, r2, r3, r4, r5, r6, r7.mono hb, r8⟩, ⟨a2, a3, a4.mono hb⟩, ⟨a5, a6, a7.mono hb⟩, rest⟩
/-- a move on both sides -/
theorem zFul.move (h : zFul Z I t u v τ Λ b ρ n nx hs sl kt A) (hb : b ≤ b') (hb' : b' < 500000000) (hC : zCE I1 47 τ ρ') (hH : zHc I1 τ n' nx' hs')
    (f1 : ∀ a, ¬ (47 ≤ a ∧ a ≤ 56) → a ≠ 67 → ¬ (71 ≤ a ∧ a ≤ 370) → a ≠ t + 4 → a ≠ t + 5 → I1 a = I a)
    (hR : zRM I2 457 0 ρ') (hM : zHm I2 n' hs') (f2 : ∀ a, a ≠ 420 → ¬ (455 ≤ a ∧ a ≤ 460) → I2 a = I1 a) (f3 : ∀ k, k ≠ 54 → k ≠ 58 → k ≠ 64 → k ≠ 65 → I2 420 k = I1 420 k)
    (hw : zw I2) (hp : zHp τ b' n' nx' hs') (hD : zDW τ ρ') (hB : zRb b' ρ') : zFul Z I2 t u v τ Λ b' ρ' n' nx' hs' sl kt A := by
  obtain ⟨a1, ⟨a2, a3, a4⟩, ⟨a5, a6, a7⟩, a8, a9, a10, a11, a12⟩ := h
  have ht := a1.t3
  have row : ∀ a, a ≠ 420 → ¬ (455 ≤ a ∧ a ≤ 460) → ¬ (47 ≤ a ∧ a ≤ 56) → a ≠ 67 → ¬ (71 ≤ a ∧ a ≤ 370) → a ≠ t + 4 → a ≠ t + 5 → I2 a = I a := fun a p1 p2 p3 p4 p5 p6 p7 => (f2 a p1 p2).trans (f1 a p3 p4 p5 p6 p7)
  have fld : ∀ k, k ≠ 54 → k ≠ 58 → k ≠ 64 → k ≠ 65 → I2 420 k = I 420 k := fun k p1 p2 p3 p4 => (f3 k p1 p2 p3 p4).trans (by rw [f1 420 (by omega) (by decide) (by omega) (by omega) (by omega)])
  refine ⟨⟨⟨a1.L, hb'⟩, a1.W, a1.M.same (fld 18 (by decide) (by decide) (by decide) (by decide)) (fun a h1 h2 => row a (by omega) (by omega) (by omega) (by omega) (by omega) (by omega) (by omega)), a1.T.same (fun a h1 h2 h3 h4 => row a (by omega) (by omega) (by omega) (by omega) (by omega) (by omega) (by omega)), a1.S.same (row _ (by decide) (by decide) (by decide) (by decide) (by decide) (by omega) (by omega)) (row _ (by decide) (by decide) (by decide) (by decide) (by decide) (by omega) (by omega)), hR, hB, hD, hC.same (fun a h1 h2 => f2 a (by omega) (by omega))⟩, ⟨hH.same hp.1.2 (f2 67 (by decide) (by decide)) (fun a h1 h2 => f2 a (by omega) (by omega)), hM, hp⟩, ⟨a5.same (fun a h1 => row a (by omega) (by omega) (by omega) (by omega) (by omega) (by omega) (by omega)), a6.same (row 471 (by decide) (by decide) (by decide) (by decide) (by decide) (by omega) (by omega)) (row 472 (by decide) (by decide) (by decide) (by decide) (by decide) (by omega) (by omega)), a7.mono hb⟩, ?_, ?_, hw, ?_, ?_, a12.2.1.same (fun a p q => row a (by omega) (by omega) (by omega) (by omega) (by omega) (by omega) (by omega)), a12.2.2.same (row 1000006 (by decide) (by decide) (by decide) (by decide) (by decide) (by omega) (by omega))⟩
  · exact a8.same (fun a h1 h2 => row a (by omega) (by omega) (by omega) (by omega) (by omega) (by omega) (by omega)) (fld 69 (by decide) (by decide) (by decide) (by decide)) (fun a h1 h2 => row a (by omega) (by omega) (by omega) (by omega) (by omega) (by omega) (by omega))
  · exact a9.same (row 432 (by decide) (by decide) (by decide) (by decide) (by decide) (by omega) (by omega)) (row 433 (by decide) (by decide) (by decide) (by decide) (by decide) (by omega) (by omega))
  · exact a11.same (row 0 (by decide) (by decide) (by decide) (by decide) (by decide) (by omega) (by omega)) (row 1 (by decide) (by decide) (by decide) (by decide) (by decide) (by omega) (by omega)) (row 421 (by decide) (by decide) (by decide) (by decide) (by decide) (by omega) (by omega)) (fld 2 (by decide) (by decide) (by decide) (by decide))
  · rw [row 0 (by decide) (by decide) (by decide) (by decide) (by decide) (by omega) (by omega), fld 17 (by decide) (by decide) (by decide) (by decide)]; exact a12.1
/-- two calls that answer alike, and what is stays tied -/
abbrev zX (kc km : zK) (lc lm : zL) (Z : zZ) (I : zI) (J : zJ) (t u v : Nat) (τ : Nat → Nat → Nat) (Λ : Nat → Option zLaw) (b : Nat) : Prop :=
  ∃ (r : Int32) (I1 I2 : zI), zE 10 kc 0 lc [] Z I J (some (.int r), Z, I1, J) ∧ zE 10 km 0 lm [] Z I1 J (some (.int r), Z, I2, J) ∧ ∃ (ρ : Nat → Nat) (n nx : Nat) (hs : Nat → Nat → Nat) (sl : Nat → Option (Nat → Nat)) (kt : Nat) (A : Nat → Nat × Nat × Bool), zFul Z I2 t u v τ Λ (b + 2000) ρ n nx hs sl kt A
theorem zX.q {kc km : zK} {lc lm : zL} (h : zFul Z I t u v τ Λ b ρ n nx hs sl kt A) (hb : b + 2000 < 500000000) (q : zQ2 kc km lc lm Z I J) : zX kc km lc lm Z I J t u v τ Λ b := by
  obtain ⟨r, I1, I2, h1, h2, h3⟩ := q
  exact ⟨r, I1, I2, h1, h2, ρ, n, nx, hs, sl, kt, A, (h.sc h3).up (by omega) hb⟩
theorem X_step (h : zFul Z I t u v τ Λ b ρ n nx hs sl kt A) (hb : b + 2000 < 500000000) (x y : Int32) : zX kX11_step kX12_step [some (.ref 0), some (.int x), some (.int y)] [some (.ref 420), some (.int x), some (.int y)] Z I J t u v τ Λ b := by
  have h0 := h.1
  have h7 := h0.n7
  have ht3 := h0.t3
  by_cases hx : zism τ x
  · obtain ⟨m, hm, rfl⟩ := (zism_iff h7 x).mp hx
    have cL := C_canLay (d := 7) (J := J) h0.L (ly_d47 h0.L) (ly_tx h0.L) h0.S h0.W h0.T h0.C h0.D hm (x := y)
    by_cases hy : 1 ≤ y ∧ y ≤ 4
    · obtain ⟨w, hw1, hw4, rfl⟩ : ∃ w, 1 ≤ w ∧ w ≤ 4 ∧ y = nI w := by
        obtain ⟨w, hw, rfl⟩ := znI_ex y (fun z => absurd (Int32.le_trans hy.1 (Int32.le_of_lt z)) (by decide))
        have a1 := hy.1
        have a2 := hy.2
        rw [show (1 : Int32) = nI 1 from rfl, zle' (by decide) (by omega)] at a1
        rw [show (4 : Int32) = nI 4 from rfl, zle' (by omega) (by decide)] at a2
        exact ⟨w, a1, a2, rfl⟩
      have cl := cL.1 w hw1 hw4 rfl
      by_cases hc : zcan τ ρ m w
      · obtain ⟨I1, r1, r2, r3⟩ := C_rem (d := 6) (J := J) h0.L h0.W h0.E h0.D h.2.1.2.2.1 h.2.1.1
        have hS1 : zSx I1 := h0.S.same (r3 _ (by decide) (by decide)) (r3 _ (by decide) (by decide))
        have hT1 : zCT I1 t τ Λ := h0.T.same (fun a _ _ _ _ => r3 a (by omega) (by omega))
        have hE1 : zCE I1 47 τ ρ := h0.E.same (fun a _ _ => r3 a (by omega) (by omega))
        obtain ⟨I2, l1, l2, l3⟩ := (C_lay (d := 6) (J := J) h0.L (ly_d47 h0.L) (ly_tx h0.L) hS1 (by decide) h0.W hT1 hE1.1 h0.D h0.B hm hw1 hw4).1 hc
        have hE2 : zCE I2 47 τ (zlay ρ m w) := hE1.fd l3 l2 (zlay_28 (by omega))
        have fr : ∀ a, ¬ (47 ≤ a ∧ a ≤ 56) → a ≠ 67 → ¬ (71 ≤ a ∧ a ≤ 370) → I2 a = I a := fun a p1 p2 p3 => (l3.1 a (by omega)).trans (r3 a p2 p3)
        have hM2 : zMT I2 v τ Λ := h0.M.same (by rw [fr 420 (by decide) (by decide) (by decide)]) (fun a _ _ => fr a (by omega) (by omega) (by omega))
        obtain ⟨I3, c1, c2, c3, c4⟩ := M_copies' (d := 9) (J := J) h0.L (I := I2) (ρ := ρ) (fun k hk => by rw [fr 457 (by decide) (by decide) (by decide)]; exact h0.R k hk)
        have hM3 : zMT I3 v τ Λ := hM2.same (by rw [c4 420 (by decide) (by decide)]) (fun a _ _ => c4 a (by omega) (by omega))
        obtain ⟨I4, s1, s2, s3⟩ := (M_steps (d := 5) (J := J) h0.L h0.W hM3 c2 h0.B h0.D hm hw1 hw4).1 hc
        have hB' := zRb_lay h0.bd h0.D h0.W hm hw1 hw4 hc
        have hD' := zDW_lay h0.W h0.D hm hw1 hw4 hc
        have f4 : ∀ a, a ≠ 420 → a ≠ 455 → a ≠ 456 → a ≠ 458 → a ≠ 459 → I4 a = I2 a := fun a p1 p2 p3 p4 p5 => (s3.row p1 p2 p3 p4).trans (c4 a p4 p5)
        have g4 : ∀ k, k ≠ 54 → I4 420 k = I2 420 k := fun k p => (s3.2 k (by simpa using p)).trans (by rw [c4 420 (by decide) (by decide)])
        obtain ⟨I5, k1, k2, k3, k4, k5⟩ := M_keeps (d := 8) (J := J) h0.L (n := n) (hs := hs) (ρ := ρ) (ρ' := zlay ρ m w) h.2.1.2.2.1.1 (h.2.1.2.1.same (by rw [g4 58 (by decide), fr 420 (by decide) (by decide) (by decide)]) (by rw [f4 460 (by decide) (by decide) (by decide) (by decide) (by decide), fr 460 (by decide) (by decide) (by decide)])) (fun k hk => by rw [f4 457 (by decide) (by decide) (by decide) (by decide) (by decide), fr 457 (by decide) (by decide) (by decide)]; exact h0.R k hk) s2
        refine ⟨1, I2, I5, BX11_step_0 (d := 6) _ _ h0.L ⟨_, C_isMan h0.L h7 h0.men, fun q => absurd hx (zbi_eq0.mp q), fun _ => ⟨_, cl, fun _ => ⟨I1, r1, I2, l1, rfl⟩, fun q => absurd hc (zbi_eq0.mp q)⟩⟩, BX12_step_0 (d := 5) _ _ h0.L ⟨_, M_isMan h0.L h0.W hM2, fun q => absurd hx (zbi_eq0.mp q), fun _ => ⟨fun _ => ⟨I3, c1, _, I4, s1, fun _ => ⟨I5, k1, rfl⟩, fun q => absurd q (by decide)⟩, fun q => absurd hy (zbi_eq0.mp q)⟩⟩, zlay ρ m w, zh1 n, znxt nx, zhp n hs ρ, sl, kt, A, ?_⟩
        refine h.move (b' := b + 2000) (by omega) hb hE2 (r2.same (by have := h.2.1.2.2.1.2; unfold znxt; split <;> omega) (l3.1 67 (by decide)) (fun a p1 p2 => l3.1 a (by omega))) (fun a p1 p2 p3 _ _ => fr a p1 p2 p3) k3 k2 (fun a p1 p2 => by rw [k4 a p1 (by omega) (by omega), f4 a p1 (by omega) (by omega) (by omega) (by omega)]) (fun k p1 p2 _ _ => by rw [k5 k p2, g4 k p1]) (zw.of (b := b + 1) (fun k hk => by rw [k4 458 (by decide) (by decide) (by decide)]; exact s2 k hk) hB' (by omega)) ((h.2.1.2.2.one h0.bd h0.D).mono (by omega)) hD' (hB'.mono (by omega))
      · refine zX.q h hb (zQ2.of h0 0 ⟨I, BX11_step_0 (d := 6) _ _ h0.L ⟨_, C_isMan h0.L h7 h0.men, fun _ => rfl, fun _ => ⟨_, cl, fun q => absurd (zbi_eq0.mpr hc) q, fun _ => rfl⟩⟩, zscr.rf⟩ (fun I1 h1 => ?_))
        obtain ⟨I3, c1, c2, c3, c4, c5⟩ := M_cop (d := 9) (J := J) h1
        obtain ⟨I4, s1, s2⟩ := (M_steps (d := 5) (J := J) c2.L c2.W c2.M c3 c2.B c2.D hm hw1 hw4).2 hc
        exact ⟨I4, BX12_step_0 (d := 5) _ _ h1.L ⟨_, M_isMan h1.L h1.W h1.M, fun q => absurd hx (zbi_eq0.mp q), fun _ => ⟨fun _ => ⟨I3, c1, _, I4, s1, fun q => absurd rfl q, fun _ => rfl⟩, fun _ => absurd hy (zbi_eq0.mp ‹_›)⟩⟩, c5.tr (zscr.fl s2)⟩
    · exact zX.q h hb (zQ2.of h0 0 ⟨I, BX11_step_0 (d := 6) _ _ h0.L ⟨_, C_isMan h0.L h7 h0.men, fun _ => rfl, fun _ => ⟨_, cL.2 hy, fun q => absurd rfl q, fun _ => rfl⟩⟩, zscr.rf⟩ (fun I1 h1 => ⟨I1, BX12_step_0 (d := 5) _ _ h1.L ⟨_, M_isMan h1.L h1.W h1.M, fun _ => rfl, fun _ => ⟨fun q => absurd (zbi_eq0.mpr hy) q, fun _ => rfl⟩⟩, zscr.rf⟩))
  · exact zX.q h hb (zQ2.of h0 0 ⟨I, BX11_step_0 (d := 6) _ _ h0.L ⟨_, C_isMan h0.L h7 h0.men, fun _ => rfl, fun q => absurd (zbi_eq0.mpr hx) q⟩, zscr.rf⟩ (fun I1 h1 => ⟨I1, BX12_step_0 (d := 5) _ _ h1.L ⟨_, M_isMan h1.L h1.W h1.M, fun _ => rfl, fun q => absurd (zbi_eq0.mpr hx) q⟩, zscr.rf⟩))
end
