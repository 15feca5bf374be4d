/-! the reference's reader: GOES, LONG; all that a text tells -/
section
variable {d : Nat} {Z : zZ} {I I' : zI} {J J' : zJ} {t u s t0 t1 T T' cn br cd : Nat} {K P V W X N : Nat → Nat} {τ τ' : Nat → Nat → Nat} {Λ Λ' : Nat → Option zLaw} {C : Nat → Nat × Nat × Nat} {wo : Option (Nat × Nat)} {r : zRt}
theorem zMw.fW {b c : Nat} (h : zMw I P T wo) (hf : zfW s b c I I') : zMw I' P T wo := by
  cases wo with
  | none => exact (hf.2.1 15 (by decide)).trans h
  | some q => exact ⟨h.1, (hf.2.1 15 (by decide)).trans h.2.1, (hf.2.1 16 (by decide)).trans h.2.2.1, h.2.2.2⟩
theorem zMo_law {om : Option Nat} {q : Nat × zLaw} {t' : Nat} (hX : zMX I s br cd τ Λ) (hN : zMnm I J K W X (τ 0 0) N) (hCn : zMcn I t0 τ cn C) (ht : t0 ≤ t') (hf : zfW s br cd I I') (ho : ∀ m, om = some m → m < 8) (hp : ∃ b' c', I' 420 41 = nI (130 * s + b') ∧ I' 420 47 = nI (420 * s + c') ∧ 4 * b' ≤ t' ∧ c' ≤ t' ∧ (cd ≤ c' ∧ br ≤ b') ∧ I' 420 12 = 0 ∧ zlwOK q.2 ∧ zmlv I' (130 * s) (130 * s + b') (420 * s) (420 * s + c') (130 * s + br) q.2.1 q.2.2 ∧ (∀ m, om = some m → I' 445 (8 * s + m) = nI (130 * s + br) ∧ I' 446 (8 * s + m) = nI (130 * s + br + q.2.1.length + 1) ∧ 130 * s + br + q.2.1.length + 1 ≤ 260) ∧ ∀ j, (∀ m, om = some m → j ≠ 8 * s + m) → I' 445 j = I 445 j ∧ I' 446 j = I 446 j) : zMo I' J s K W X t' τ (zlset Λ om (.ok q)) N cn C := by
  obtain ⟨b', c', h1, h2, h3, h4, ⟨h5, h5'⟩, h6, h7, h8, h9, h10⟩ := hp
  obtain ⟨d1, d2, d3, d4, d5, d6, d7⟩ := hX
  have row : ∀ a, a ≠ 420 → ¬ (445 ≤ a ∧ a ≤ 454) → I' a = I a := hf.1
  refine ⟨b', c', ⟨h3, h4, h1, h2, h6⟩, ?_, hN.same (hf.2.1 20 (by decide)) rfl, hCn.same (hf.2.1 35 (by decide)) (fun a p q => row a (by omega) (by omega)) ht rfl (fun _ _ => rfl)⟩
  unfold zMX
  rw [row 431 (by decide) (by decide), row 429 (by decide) (by decide), row 430 (by decide) (by decide), row 441 (by decide) (by decide), row 438 (by decide) (by decide), row 432 (by decide) (by decide), row 433 (by decide) (by decide), row 434 (by decide) (by decide), row 435 (by decide) (by decide), row 436 (by decide) (by decide), row 437 (by decide) (by decide), row 439 (by decide) (by decide), row 440 (by decide) (by decide)]
  refine ⟨d1, d2, d3, d4, d5, d6, fun p hp => ?_⟩
  have old : (∀ m, om = some m → p ≠ m) → zLh I' s b' c' p (Λ p) := fun hne => by
    have j1 := h10 (8 * s + p) (fun m hm => by have := hne m hm; omega)
    exact (d7 p hp).same (fun a p1 p2 => by
      have e : a = 445 ∨ a = 446 := by omega
      rcases e with rfl | rfl
      · exact j1.1
      · exact j1.2) (fun a p1 p2 j hj => hf.2.2.1 a p1 p2 j (Or.inl hj)) (fun a p1 p2 j hj => by
      have e : a = 452 ∨ a = 453 := by omega
      rcases e with rfl | rfl
      · exact (hf.2.2.2.1 j (Or.inl hj)).1
      · exact (hf.2.2.2.1 j (Or.inl hj)).2) h5' h5
  cases om with
  | none => exact old (fun m q => absurd q (by simp))
  | some m =>
    show zLh I' s b' c' p (if p = m then some q.2 else Λ p)
    by_cases e : p = m
    · rw [if_pos e, e]
      obtain ⟨q1, q2, q3⟩ := h9 m rfl
      exact ⟨h7, 130 * s + br, q1, q2, q3, h8⟩
    · rw [if_neg e]
      exact old (fun m' q => by cases q; exact e)
theorem M_long (hL : zLY Z t u) (hs : s < 2) (hT : zTM I J K P V X) (hB : zMB K P V W X) (h : zMS I J s K P W X (.ok t0, wo, τ, Λ, N, cn, C)) (hk : K t0 = 131) : ∃ I', zE (d + 6) kX12_tell0 0 [some (.ref 420), none, none] [] Z I J (none, Z, I', J) ∧ zfS s I I' ∧ zMS I' J s K P W X (zpLong K V t0 wo τ Λ N cn C) := by
  obtain ⟨hC, ⟨h19, hD, hbr⟩, hO⟩ := h
  have hO0 : zMo I J s K W X t0 τ Λ N cn C := hO t0 rfl
  obtain ⟨br, cd, ⟨b1, b2, b3, b4, b5⟩, hX, hN, hCn⟩ := hO0
  obtain ⟨hv, ex⟩ := M_kind hT hC.1
  rw [hk] at ex
  have ht0 : t0 ≤ 400 := hC.1.1.1
  obtain ⟨I2, a2, m2, f2⟩ := M_goesOnC (d := d + 4) hL hT hC (fun t1 q => by cases q; rw [hk]; decide)
  have m2 : zMc I2 K P (zgn t0) wo := m2
  have T2 := hT.f4 f2
  obtain ⟨I5, a5, m5, f5, hb5, q5⟩ := M_tellLaw (d := d) (c := cd) (b := br) (s := s) hL T2 hB hs (by rw [f2.2 19 (by decide)]; exact h19) (by omega) (by rw [f2.2 41 (by decide)]; exact b3) m2.1 (fun t1 q => by
    have := (zgn_ok q).2
    exact ⟨by omega, by omega, by rw [f2.2 47 (by decide)]; exact b4, by rw [f2.2 12 (by decide)]; exact b5⟩) (om := some 7) (fun m q => by cases q; decide)
  refine ⟨I5, BX12_tell0_0 hL ⟨hv, fun q => absurd q (by rw [ex]; decide), fun q => absurd (ex.symm.trans q) (by decide), fun q => absurd (ex.symm.trans q) (by decide), fun q => absurd (ex.symm.trans q) (by decide), fun _ => ⟨I2, a2, I5, a5, rfl⟩, fun q => absurd (ex.symm.trans q) (by decide), fun q => absurd (ex.symm.trans q) (by decide), fun q => absurd (ex.symm.trans q) (by decide), fun q => absurd (ex.symm.trans q) (by decide)⟩, (f2.S (by decide)).tr f5.S, ⟨m5, fun t' q => ?_⟩, ⟨by rw [f5.2.1 19 (by decide), f2.2 19 (by decide)]; exact h19, hD.row (by rw [f5.1 432 (by decide) (by decide), f2.1 432 (by decide)]) (by rw [f5.1 433 (by decide) (by decide), f2.1 433 (by decide)]), hb5⟩, fun t' q => ?_⟩
  · have q' : ztk K 59 (zrt (zlawR K V (zgn t0))) = .ok t' := q
    obtain ⟨t2, w2, -, -, x2⟩ := ztk_ok q'
    obtain ⟨a, ea⟩ := zrt_ok w2
    have hr : ∃ t1, zgn t0 = .ok t1 := by
      cases hz : zgn t0 with
      | error e => rw [hz] at ea; exact absurd ea (by simp [zlawR, ztk])
      | ok t1 => exact ⟨t1, rfl⟩
    obtain ⟨t1, e1⟩ := hr
    have := zlawR_le ea t1 e1
    exact ((m2.2 t1 e1).fW f5).mono (by simp only at this; omega)
  · have q' : ztk K 59 (zrt (zlawR K V (zgn t0))) = .ok t' := q
    obtain ⟨t2, w2, y2, n2, x2⟩ := ztk_ok q'
    obtain ⟨a, ea⟩ := zrt_ok w2
    have hr : ∃ t1, zgn t0 = .ok t1 := by
      cases hz : zgn t0 with
      | error e => rw [hz] at ea; exact absurd ea (by simp [zlawR, ztk])
      | ok t1 => exact ⟨t1, rfl⟩
    obtain ⟨t1, e1⟩ := hr
    have x1 := (zgn_ok e1).2
    have lt := zlawR_le ea t1 e1
    show zMo I5 J s K W X t' τ (zlset Λ (some 7) (zlawR K V (zgn t0))) N cn C
    rw [ea]
    exact zMo_law (I := I2) (br := br) (cd := cd) (t0 := t0) (by
      have row : ∀ a, a ≠ 420 → I2 a = I a := f2.1
      obtain ⟨d1, d2, d3, d4, d5, d6, d7⟩ := hX
      unfold zMX
      rw [row 431 (by decide), row 429 (by decide), row 430 (by decide), row 441 (by decide), row 438 (by decide), row 432 (by decide), row 433 (by decide), row 434 (by decide), row 435 (by decide), row 436 (by decide), row 437 (by decide), row 439 (by decide), row 440 (by decide)]
      exact ⟨d1, d2, d3, d4, d5, d6, fun p hp => (d7 p hp).rows (fun a p q => row a (by omega))⟩) (hN.f4 f2 (by decide)) (hCn.same (f2.2 35 (by decide)) (fun a p q => f2.1 a (by omega)) (Nat.le_refl _) rfl (fun _ _ => rfl)) (by simp only at lt; omega) f5 (fun m q => by cases q; decide) (q5 _ t' ea (by unfold ztk; dsimp only; rw [if_pos y2]; unfold zgn; rw [if_neg n2, x2]))
theorem M_goes (hL : zLY Z t u) (hs : s < 2) (hT : zTM I J K P V X) (hB : zMB K P V W X) (h : zMS I J s K P W X (.ok t0, wo, τ, Λ, N, cn, C)) (hk : K t0 = 130) : ∃ I', zE (d + 6) kX12_tell0 0 [some (.ref 420), none, none] [] Z I J (none, Z, I', J) ∧ zfS s I I' ∧ zMS I' J s K P W X (zpGoes K V W t0 wo τ Λ N cn C) := by
  obtain ⟨hC, ⟨h19, hD, hbr⟩, hO⟩ := h
  have hO0 : zMo I J s K W X t0 τ Λ N cn C := hO t0 rfl
  obtain ⟨br, cd, ⟨b1, b2, b3, b4, b5⟩, hX, hN, hCn⟩ := hO0
  obtain ⟨hv, ex⟩ := M_kind hT hC.1
  rw [hk] at ex
  have ht0 : t0 ≤ 400 := hC.1.1.1
  have h7 := hX.1.1
  obtain ⟨I2, a2, m2, f2⟩ := M_goesOnC (d := d + 4) hL hT hC (fun t1 q => by cases q; rw [hk]; decide)
  have m2 : zMc I2 K P (zgn t0) wo := m2
  have T2 := hT.f4 f2
  obtain ⟨v3, I4, a4, m4, f4, q4, q4'⟩ := M_known (d := d + 2) hL T2 hB (fun _ => hN.f4 f2 (by decide)) m2
  have T4 := T2.f4 f4
  have fld : ∀ k, k ≠ 11 → k ≠ 13 → k ≠ 14 → k ≠ 15 → k ≠ 16 → I4 420 k = I 420 k := fun k p1 p2 p3 p4 p5 => by
    have n3 : k ∉ [11, 13, 14] := by simp; omega
    have n5 : k ∉ [11, 13, 14, 15, 16] := by simp; omega
    rw [f4.2 k n5, f2.2 k n3]
  have row : ∀ a, a ≠ 420 → I4 a = I a := fun a p1 => by rw [f4.1 a p1, f2.1 a p1]
  have hom : ∃ om : Option Nat, v3 = zoi om ∧ (∀ m, om = some m → m < 8) ∧ ∀ t2, ztk K 2 (zgn t0) = .ok t2 → om = zfnd N (W (t0 + 1)) (τ 0 0) 0 := by
    cases hr : ztk K 2 (zgn t0) with
    | error e => exact ⟨none, q4' (by rw [hr]; exact id), fun m q => absurd q (by simp), fun t2 q => absurd q (by simp)⟩
    | ok t2 =>
      obtain ⟨t1, w1, y1, -, x1⟩ := ztk_ok hr
      have x0 := (zgn_ok w1).2
      refine ⟨zfnd N (W (t0 + 1)) (τ 0 0) 0, by rw [q4 t1 w1 (by rw [hr]; trivial), x0], fun m q => by have := (zfnd_lt _ _ _ q).2.1; omega, fun _ _ => rfl⟩
  obtain ⟨om, eom, hom8, homz⟩ := hom
  obtain ⟨I5, a5, m5, f5, hb5, q5⟩ := M_tellLaw (d := d) (c := cd) (b := br) (s := s) hL T4 hB hs (by rw [fld 19 (by decide) (by decide) (by decide) (by decide) (by decide)]; exact h19) (by omega) (by rw [fld 41 (by decide) (by decide) (by decide) (by decide) (by decide)]; exact b3) m4.1 (fun t2 q => by
    obtain ⟨t1, w1, y1, -, x1⟩ := ztk_ok q
    have := (zgn_ok w1).2
    exact ⟨by omega, by omega, by rw [fld 47 (by decide) (by decide) (by decide) (by decide) (by decide)]; exact b4, by rw [fld 12 (by decide) (by decide) (by decide) (by decide) (by decide)]; exact b5⟩) (om := om) hom8
  rw [← eom] at a5
  refine ⟨I5, BX12_tell0_0 hL ⟨hv, fun q => absurd q (by rw [ex]; decide), fun q => absurd (ex.symm.trans q) (by decide), fun q => absurd (ex.symm.trans q) (by decide), fun _ => ⟨I2, a2, v3, I4, a4, I5, a5, rfl⟩, fun q => absurd (ex.symm.trans q) (by decide), fun q => absurd (ex.symm.trans q) (by decide), fun q => absurd (ex.symm.trans q) (by decide), fun q => absurd (ex.symm.trans q) (by decide), fun q => absurd (ex.symm.trans q) (by decide)⟩, ((f2.S (by decide)).tr (f4.S (by decide))).tr f5.S, ⟨m5, fun t' q => ?_⟩, ⟨by rw [f5.2.1 19 (by decide), fld 19 (by decide) (by decide) (by decide) (by decide) (by decide)]; exact h19, hD.row (by rw [f5.1 432 (by decide) (by decide), row 432 (by decide)]) (by rw [f5.1 433 (by decide) (by decide), row 433 (by decide)]), hb5⟩, fun t' q => ?_⟩
  · have q' : ztk K 59 (zrt (zlawR K V (ztk K 2 (zgn t0)))) = .ok t' := q
    obtain ⟨t2, w2, -, -, x2⟩ := ztk_ok q'
    obtain ⟨a, ea⟩ := zrt_ok w2
    have hr : ∃ t1, ztk K 2 (zgn t0) = .ok t1 := by
      cases hz : ztk K 2 (zgn t0) with
      | error e => rw [hz] at ea; exact absurd ea (by simp [zlawR, ztk])
      | ok t1 => exact ⟨t1, rfl⟩
    obtain ⟨t1, e1⟩ := hr
    have := zlawR_le ea t1 e1
    exact ((m4.2 t1 e1).fW f5).mono (by simp only at this; omega)
  · have q' : ztk K 59 (zrt (zlawR K V (ztk K 2 (zgn t0)))) = .ok t' := q
    obtain ⟨t2, w2, y2, n2, x2⟩ := ztk_ok q'
    obtain ⟨a, ea⟩ := zrt_ok w2
    have hr : ∃ t1, ztk K 2 (zgn t0) = .ok t1 := by
      cases hz : ztk K 2 (zgn t0) with
      | error e => rw [hz] at ea; exact absurd ea (by simp [zlawR, ztk])
      | ok t1 => exact ⟨t1, rfl⟩
    obtain ⟨t1, e1⟩ := hr
    obtain ⟨t3, w3, -, -, x3⟩ := ztk_ok e1
    have x4 := (zgn_ok w3).2
    have lt := zlawR_le ea t1 e1
    show zMo I5 J s K W X t' τ (zlset Λ (zfnd N (W (t0 + 1)) (τ 0 0) 0) (zlawR K V (ztk K 2 (zgn t0)))) N cn C
    rw [ea, ← homz t1 e1]
    exact zMo_law (I := I4) (br := br) (cd := cd) (t0 := t0) (by
      obtain ⟨d1, d2, d3, d4, d5, d6, d7⟩ := hX
      unfold zMX
      rw [row 431 (by decide), row 429 (by decide), row 430 (by decide), row 441 (by decide), row 438 (by decide), row 432 (by decide), row 433 (by decide), row 434 (by decide), row 435 (by decide), row 436 (by decide), row 437 (by decide), row 439 (by decide), row 440 (by decide)]
      exact ⟨d1, d2, d3, d4, d5, d6, fun p hp => (d7 p hp).rows (fun a p q => row a (by omega))⟩) (hN.same (fld 20 (by decide) (by decide) (by decide) (by decide) (by decide)) rfl) (hCn.same (fld 35 (by decide) (by decide) (by decide) (by decide) (by decide)) (fun a p q => row a (by omega)) (Nat.le_refl _) rfl (fun _ _ => rfl)) (by simp only at lt; omega) f5 hom8 (q5 _ t' ea (by unfold ztk; dsimp only; rw [if_pos y2]; unfold zgn; rw [if_neg n2, x2]))
theorem zkL_tell : ∀ k ∈ zkL, (k = 128 ∨ k = 129 ∨ k = 130 ∨ k = 131 ∨ k = 132 ∨ k = 133 ∨ k = 134 ∨ k = 135) ∨ (zkr k < 20 ∨ 27 < zkr k) := by decide
theorem M_tell1 (hL : zLY Z t u) (hs : s < 2) (hT : zTM I J K P V X) (hB : zMB K P V W X) (hG : zGl τ Λ) (h : zMS I J s K P W X (.ok t0, wo, τ, Λ, N, cn, C)) : ∃ I' J', zE (d + 6) kX12_tell0 0 [some (.ref 420), none, none] [] Z I J (none, Z, I', J') ∧ (zfS s I I' ∧ ∀ a, a ≠ 428 → J' a = J a) ∧ zMS I' J' s K P W X (ztell K V W t0 (wo, τ, Λ, N, cn, C)) := by
  unfold ztell
  have one : ∀ {st : zPs}, (∃ I', zE (d + 6) kX12_tell0 0 [some (.ref 420), none, none] [] Z I J (none, Z, I', J) ∧ zfS s I I' ∧ zMS I' J s K P W X st) → ∃ I' J', zE (d + 6) kX12_tell0 0 [some (.ref 420), none, none] [] Z I J (none, Z, I', J') ∧ (zfS s I I' ∧ ∀ a, a ≠ 428 → J' a = J a) ∧ zMS I' J' s K P W X st := fun ⟨I', a, b, c⟩ => ⟨I', J, a, ⟨b, fun _ _ => rfl⟩, c⟩
  by_cases k0 : K t0 = 128
  · rw [if_pos k0]; exact one (M_town hL hs hT hB h k0)
  rw [if_neg k0]
  by_cases k1 : K t0 = 129
  · rw [if_pos k1]; exact M_man hL hs hT hB hG h k1
  rw [if_neg k1]
  by_cases k2 : K t0 = 130
  · rw [if_pos k2]; exact one (M_goes hL hs hT hB h k2)
  rw [if_neg k2]
  by_cases k3 : K t0 = 131
  · rw [if_pos k3]; exact one (M_long hL hs hT hB h k3)
  rw [if_neg k3]
  by_cases k4 : K t0 = 132
  · rw [if_pos k4]; exact one (M_errand hL hs hT hB h k4)
  rw [if_neg k4]
  by_cases k5 : K t0 = 133
  · rw [if_pos k5]; exact one (M_pillar hL hs hT hB h k5)
  rw [if_neg k5]
  by_cases k6 : K t0 = 134
  · rw [if_pos k6]; exact one (M_dye hL hs hT hB h k6)
  rw [if_neg k6]
  by_cases k7 : K t0 = 135
  · rw [if_pos k7]; exact one (M_seed hL hs hT hB h k7)
  rw [if_neg k7]
  obtain ⟨hC, ⟨h19, hD, hbr⟩, hO⟩ := h
  obtain ⟨hv, ex⟩ := M_kind hT hC.1
  obtain ⟨I2, a2, m2, f2⟩ := M_fail (d := d + 5) hL hT hC.1 (k := 1) (by decide)
  have m2' : zMt I2 K P (.error (1, t0)) := m2
  have hz := (zkL_tell _ (hB.1 t0)).resolve_left (by omega)
  have h100 := (zkL_lt _ (hB.1 t0)).2
  have no : ∀ c, 20 ≤ c → c ≤ 27 → ¬ nI (zkr (K t0)) = nI c := fun c p q e => by rw [zeq (by omega) (by omega)] at e; omega
  exact ⟨I2, J, BX12_tell0_0 hL ⟨hv, fun _ => ⟨I2, a2, rfl⟩, fun q => absurd (ex.symm.trans q) (no 20 (by decide) (by decide)), fun q => absurd (ex.symm.trans q) (no 21 (by decide) (by decide)), fun q => absurd (ex.symm.trans q) (no 22 (by decide) (by decide)), fun q => absurd (ex.symm.trans q) (no 23 (by decide) (by decide)), fun q => absurd (ex.symm.trans q) (no 24 (by decide) (by decide)), fun q => absurd (ex.symm.trans q) (no 25 (by decide) (by decide)), fun q => absurd (ex.symm.trans q) (no 26 (by decide) (by decide)), fun q => absurd (ex.symm.trans q) (no 27 (by decide) (by decide))⟩, ⟨f2.S (by decide), fun _ _ => rfl⟩, zMc.err m2', ⟨by rw [f2.2 19 (by decide)]; exact h19, hD.row (f2.1 432 (by decide)) (f2.1 433 (by decide)), by rw [f2.2 41 (by decide)]; exact hbr⟩, fun t' q => absurd q (by simp)⟩
end
