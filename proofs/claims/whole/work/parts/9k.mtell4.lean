/-! the reference's reader: ERRAND -/
section
variable {d : Nat} {Z : zZ} {I I' : zI} {J J' : zJ} {t u s t0 T T' cn br cd : Nat} {K P V W X N : Nat → Nat} {τ τ' : Nat → Nat → Nat} {Λ Λ' : Nat → Option zLaw} {C : Nat → Nat × Nat × Nat} {wo : Option (Nat × Nat)} {r : zRt}
theorem zsum_up {f g : Nat → Nat} {m : Nat} (hg : ∀ j, j ≠ m → g j = f j) (h1 : g m = f m + 1) : ∀ k i, i ≤ m → m < i + k → zsum g i k = zsum f i k + 1 := by
  intro k
  induction k with
  | zero => intro i h1 h2; omega
  | succ k ih =>
    intro i h2 h3
    simp only [zsum]
    by_cases e : i = m
    · subst e
      rw [h1, zsum_congr (g := f) (fun j p q => hg j (by omega))]; omega
    · rw [hg i e, ih (i + 1) (by omega) (by omega)]; omega
theorem M_errand (hL : zLY Z t u) (hs : s < 2) (hT : zTM I J K P V X) (hB : zMB K P V W X) (h : zMS I J s K P W X (.ok t0, wo, τ, Λ, N, cn, C)) (hk : K t0 = 132) : ∃ I', zE (d + 6) kX12_tell0 0 [some (.ref 420), none, none] [] Z I J (none, Z, I', J) ∧ zfS s I I' ∧ zMS I' J s K P W X (zsemi K (zpErrand K V W t0 wo τ Λ N cn C)) := by
  obtain ⟨hC, ⟨h19, hD, hbr⟩, hO⟩ := h
  have hO0 : zMo I J s K W X t0 τ Λ N cn C := hO t0 rfl
  obtain ⟨br, cd, ⟨b1, b2, b3, b4, b5⟩, ⟨g1, ⟨g2, g3, g4, g5, g6⟩, g7, g8, g9, g10, g11⟩, hN, hCn⟩ := hO0
  obtain ⟨hv, ex⟩ := M_kind hT hC.1
  rw [hk] at ex
  obtain ⟨⟨p1, p2⟩, p3, p4⟩ := hC.1
  have p1 : t0 ≤ 400 := p1
  have p2 : ∀ j, j < t0 → K j ≠ 0 := p2
  have p4 : I 420 11 = nI t0 := p4
  have p3 : I 420 13 = 0 := p3
  have h7 := g1.1
  have st : ∀ I8, zE (d + 5) kX12_tellErrand 0 [some (.ref 420), none, none, none, none, none] [] Z I J (none, Z, I8, J) → zE (d + 6) kX12_tell0 0 [some (.ref 420), none, none] [] Z I J (none, Z, I8, J) := fun I8 h1 =>
    BX12_tell0_0 hL ⟨hv, fun q => absurd q (by rw [ex]; decide), fun q => absurd (ex.symm.trans q) (by decide), fun q => absurd (ex.symm.trans q) (by decide), fun q => absurd (ex.symm.trans q) (by decide), fun q => absurd (ex.symm.trans q) (by decide), fun _ => ⟨I8, h1, rfl⟩, fun q => absurd (ex.symm.trans q) (by decide), fun q => absurd (ex.symm.trans q) (by decide), fun q => absurd (ex.symm.trans q) (by decide)⟩
  have e11 : I 420 11 + 1 = nI (t0 + 1) := by rw [p4, zadd1]
  -- from the first look on
  have first : ∀ (o : Option Nat) (out : zO), (∀ m, o = some m → m < τ 0 0) → zE (d + 4) kX12_manAt 0 [some (.ref 420), some (.int (nI (t0 + 1))), none] [] Z I J (some (.int (zoi o)), Z, I, J) → (∀ I2, zMt I2 K P (.error (2, t0)) → zf4 [13, 14] I I2 → zfulE τ o = true → zE (d + 5) kX12_tellErrand 39 [some (.ref 420), some (.int (zoi o)), none, none, none, none] [] Z I2 J out) → (zfulE τ o = false → zE (d + 5) kX12_tellErrand 39 [some (.ref 420), some (.int (zoi o)), none, none, none, none] [] Z I J out) → zE (d + 5) kX12_tellErrand 0 [some (.ref 420), none, none, none, none, none] [] Z I J out := by
    intro o out ho hm hf hg
    cases o with
    | none => exact BX12_tellErrand_0 hL ⟨_, by rw [e11]; exact hm, fun _ => hg rfl, fun q => absurd (by decide) q⟩
    | some m =>
      have hm' := ho m rfl
      have eix : (7 : Int32) * I 420 19 + zoi (some m) = nI (7 * s + m) := by
        show (7 : Int32) * I 420 19 + nI m = _
        rw [h19, show (7 : Int32) = nI 7 from rfl, zmul, zadd]
      have e35 : I 435 ((7 : Int32) * I 420 19 + zoi (some m)).toNatClampNeg = nI (τ 4 m) := by rw [eix, zclm (by omega)]; exact (g7 m hm').2.2.2
      have l6 := g1.2.2 m hm'
      have i6 : nI (τ 4 m) = 6 ↔ τ 4 m = 6 := by rw [show (6 : Int32) = nI 6 from rfl, zeq (by omega) (by decide)]
      obtain ⟨I2, a2, m2, f2⟩ := M_fail (d := d + 4) hL hT hC.1 (k := 2) (by decide)
      exact BX12_tellErrand_0 hL ⟨zoi (some m), by rw [e11]; exact hm, fun q => absurd q (zneg (a := m) (by omega)), fun _ => ⟨by rw [eix]; exact zvin (by omega) (by decide), fun q => hg (by rw [e35, i6] at q; exact decide_eq_false q), fun q => ⟨I2, a2, hf I2 m2 f2 (by rw [e35, i6] at q; exact decide_eq_true q)⟩⟩⟩
  have k13 : ∀ {I2 : zI}, zf4 [13, 14] I I2 → (I2 420 19 = nI s ∧ zDr I2 ∧ ∃ br, br ≤ 130 ∧ I2 420 41 = nI (130 * s + br)) := fun f2 => ⟨by rw [f2.2 19 (by decide)]; exact h19, hD.row (f2.1 432 (by decide)) (f2.1 433 (by decide)), by rw [f2.2 41 (by decide)]; exact hbr⟩
  have e7 : ∀ r0 : zRt, r0 = (if zfulE τ (zmE K W N (τ 0 0) t0) = true then .error (2, t0) else zgn t0) → zsemi K (zpErrand K V W t0 wo τ Λ N cn C) = (ztk K 59 (ztk K 3 (ztk K 3 (ztk K 2 r0))), zwob V 0 11 (ztk K 3 (ztk K 2 r0)) (zwob V 0 11 (ztk K 2 r0) (zwom W N (τ 0 0) 4 true r0 wo)), (match zmE K W N (τ 0 0) t0 with | none => τ | some m => zu (zu (zu τ 5 (6 * m + τ 4 m) (V (t0 + 2))) 6 (6 * m + τ 4 m) (V (t0 + 3))) 4 m (τ 4 m + 1)), Λ, N, (match zmE K W N (τ 0 0) t0 with | none => cn | some _ => cn + 1), fun i => if i = cn then (V (t0 + 2), V (t0 + 3), t0 + 2) else C i) := fun r0 e => by rw [e]; rfl
  have err39 : ∀ (o : Option Nat) (I2 : zI), zMt I2 K P (.error (2, t0)) → zE (d + 5) kX12_tellErrand 39 [some (.ref 420), some (.int (zoi o)), none, none, none, none] [] Z I2 J (none, Z, I2, J) := fun o I2 h2 => BX12_tellErrand_39 _ hL ⟨fun q => absurd q h2.e0.2.1, fun _ => rfl⟩
  have errS : ∀ I2, zMt I2 K P (.error (2, t0)) → (I2 420 19 = nI s ∧ zDr I2 ∧ ∃ br, br ≤ 130 ∧ I2 420 41 = nI (130 * s + br)) → (.error (2, t0) : zRt) = (if zfulE τ (zmE K W N (τ 0 0) t0) = true then .error (2, t0) else zgn t0) → zMS I2 J s K P W X (zsemi K (zpErrand K V W t0 wo τ Λ N cn C)) := fun I2 h2 hq e => by
    rw [e7 _ e]
    exact ⟨zMc.err h2, hq, fun t' q => absurd q (by simp [ztk])⟩
  -- the rest of an ERRAND whose man has room, as far as its last sign
  obtain ⟨I1, a1, m1, f1⟩ := M_goesOnC (d := d + 3) hL hT hC (fun t1 q => by cases q; rw [hk]; decide)
  have T1 := hT.f4 f1
  obtain ⟨v2, I3, a3, m3, f3, q3, q3'⟩ := M_known (d := d + 1) hL T1 hB (fun _ => hN.f4 f1 (by decide)) m1
  have T3 := T1.f4 f3
  obtain ⟨v4, I5, a5, m5, f5, l5, q5⟩ := M_bounded (d := d + 2) hL T3 hB (a := 0) (b := 11) (by decide) (by decide) m3
  have T5 := T3.f4 f5
  obtain ⟨v6, I7, a7, m7, f7, l7, q7⟩ := M_bounded (d := d + 2) hL T5 hB (a := 0) (b := 11) (by decide) (by decide) m5
  have T7 := T5.f4 f7
  obtain ⟨I8, a8, m8, f8⟩ := M_mustC (d := d + 2) hL T7 hB m7 (k := 59) (by decide) (by decide)
  have fld : ∀ k, k ≠ 11 → k ≠ 13 → k ≠ 14 → k ≠ 15 → k ≠ 16 → I8 420 k = I 420 k := fun k p1 p2 p3 p4 p5 => by
    have n3 : k ∉ [11, 13, 14] := by simp; omega
    have n5 : k ∉ [11, 13, 14, 15, 16] := by simp; omega
    rw [f8.2 k n3, f7.2 k n5, f5.2 k n5, f3.2 k n5, f1.2 k n3]
  have row : ∀ a, a ≠ 420 → I8 a = I a := fun a p1 => by rw [f8.1 a p1, f7.1 a p1, f5.1 a p1, f3.1 a p1, f1.1 a p1]
  have F8 : zfS s I I8 := ((f1.S (by decide)).tr ((f3.S (by decide)).tr (f5.S (by decide)))).tr ((f7.S (by decide)).tr (f8.S (by decide)))
  have x19 : I8 420 19 = nI s := by rw [fld 19 (by decide) (by decide) (by decide) (by decide) (by decide)]; exact h19
  have hD8 : zDr I8 := hD.row (row 432 (by decide)) (row 433 (by decide))
  have hbr8 : ∃ br, br ≤ 130 ∧ I8 420 41 = nI (130 * s + br) := by rw [fld 41 (by decide) (by decide) (by decide) (by decide) (by decide)]; exact hbr
  have p30 : I 420 13 ≤ 0 := by rw [p3]; decide
  have go39 : ∀ (o : Option Nat) (out : zO), (0 < (I8 420 13) → out = (none, Z, I8, J)) → (¬ 0 < (I8 420 13) → ((0 ≤ zoi o → (vp_in (((7 : Int32) * (I8 420 19)) + zoi o) 14 ∧ (∀ y9 : Int32, y9 = ((((42 : Int32) * (I8 420 19)) + ((6 : Int32) * zoi o)) + (I8 435 (((7 : Int32) * (I8 420 19)) + zoi o).toNatClampNeg)) → (vp_in y9 84 ∧ (∀ I10 : zI, I10 = zu I8 436 y9.toNatClampNeg (nI v4) → (vp_in y9 84 ∧ (∀ I11 : zI, I11 = zu I10 437 y9.toNatClampNeg (nI v6) → (vp_in (((7 : Int32) * (I11 420 19)) + zoi o) 14 ∧ (vp_in (((7 : Int32) * (I11 420 19)) + zoi o) 14 ∧ (∀ I12 : zI, I12 = zu I11 435 (((7 : Int32) * (I11 420 19)) + zoi o).toNatClampNeg ((I11 435 (((7 : Int32) * (I11 420 19)) + zoi o).toNatClampNeg) + 1) → (∃ (I13 : zI), zE (d + 4) kX12_notesCorner 0 [some (.ref 420), some (.int (I3 420 11)), some (.int (nI v4)), some (.int (nI v6))] [] Z I12 J (none, Z, I13, J) ∧ out = (none, Z, I13, J)))))))))))) ∧ (¬ 0 ≤ zoi o → out = (none, Z, I8, J)))) → zE (d + 5) kX12_tellErrand 39 [some (.ref 420), some (.int (zoi o)), none, none, none, none] [] Z I J out := fun o out h1 h2 =>
    BX12_tellErrand_39 _ hL ⟨fun _ => ⟨I1, a1, v2, I3, a3, nI v4, I5, a5, nI v6, I7, a7, I8, a8, h1, h2⟩, fun q => absurd p30 q⟩
  by_cases c400 : t0 = 400
  · have er : zgn t0 = .error (2, t0) := by unfold zgn; rw [if_pos c400]
    have e0 : (.error (2, t0) : zRt) = (if zfulE τ (zmE K W N (τ 0 0) t0) = true then .error (2, t0) else zgn t0) := by rw [er]; split <;> rfl
    obtain ⟨o, o1, o2⟩ := M_manAny (d := d + 4) (J := J) hL h7 hN.1.2 (i := t0 + 1) (by omega)
    cases hful : zfulE τ o with
    | true =>
      obtain ⟨I2, a2, m2, f2⟩ := M_fail (d := d + 4) hL hT hC.1 (k := 2) (by decide)
      have hm' : ∃ m, o = some m ∧ τ 4 m = 6 := by
        cases o with
        | none => exact absurd (show false = true from hful) (by decide)
        | some m => exact ⟨m, rfl, of_decide_eq_true hful⟩
      obtain ⟨m, rfl, hm6⟩ := hm'
      have hmn := o2 m rfl
      have eix : (7 : Int32) * I 420 19 + zoi (some m) = nI (7 * s + m) := by
        show (7 : Int32) * I 420 19 + nI m = _
        rw [h19, show (7 : Int32) = nI 7 from rfl, zmul, zadd]
      have e35 : I 435 ((7 : Int32) * I 420 19 + zoi (some m)).toNatClampNeg = 6 := by rw [eix, zclm (by omega), (g7 m hmn).2.2.2, hm6]; rfl
      exact ⟨I2, st _ (BX12_tellErrand_0 hL ⟨zoi (some m), by rw [e11]; exact o1, fun q => absurd q (zneg (a := m) (by omega)), fun _ => ⟨by rw [eix]; exact zvin (by omega) (by decide), fun q => absurd e35 q, fun _ => ⟨I2, a2, err39 _ _ m2⟩⟩⟩), f2.S (by decide), errS I2 m2 (k13 f2) e0⟩
    | false =>
      have m8' : zMc I8 K P (.error (2, t0)) (zwob V 0 11 (ztk K 3 (ztk K 2 (zgr (.ok t0)))) (zwob V 0 11 (ztk K 2 (zgr (.ok t0))) (zwom W N (τ 0 0) 4 true (zgr (.ok t0)) wo))) := by
        have : zgr (.ok t0) = .error (2, t0) := er
        rw [this] at m8 ⊢
        exact m8
      exact ⟨I8, st _ (first o _ o2 o1 (fun I2 _ _ q => absurd (q.symm.trans hful) (by decide)) (fun _ => go39 o _ (fun _ => rfl) (fun q => absurd m8'.1.e0.2.2 q))), F8, errS I8 m8'.1 ⟨x19, hD8, hbr8⟩ e0⟩
  have er : zgn t0 = .ok (t0 + 1) := by unfold zgn; rw [if_neg c400]
  have hgk : ∀ j, j < t0 + 1 → K j ≠ 0 := fun j hj => by
    by_cases e : j = t0
    · rw [e, hk]; decide
    · exact p2 j (by omega)
  have hm0 := M_manAt (d := d + 4) hL hT hB hN (i := t0 + 1) (by omega) hgk
  obtain ⟨o, eo⟩ : ∃ o, o = zmE K W N (τ 0 0) t0 := ⟨_, rfl⟩
  have eo' : (if K (t0 + 1) = 2 then zfnd N (W (t0 + 1)) (τ 0 0) 0 else none) = o := eo.symm
  rw [eo'] at hm0
  have ho : ∀ m, o = some m → m < τ 0 0 := fun m q => by
    rw [q] at eo'
    split at eo'
    · have := (zfnd_lt _ _ _ eo').2.1; omega
    · exact absurd eo' (by simp)
  cases hful : zfulE τ o with
  | true =>
    have e0 : (.error (2, t0) : zRt) = (if zfulE τ (zmE K W N (τ 0 0) t0) = true then .error (2, t0) else zgn t0) := by rw [← eo, if_pos hful]
    have hm' : ∃ m, o = some m ∧ τ 4 m = 6 := by
      cases o with
      | none => exact absurd (show false = true from hful) (by decide)
      | some m => exact ⟨m, rfl, of_decide_eq_true hful⟩
    obtain ⟨m, hom, hm6⟩ := hm'
    obtain ⟨I2, a2, m2, f2⟩ := M_fail (d := d + 4) hL hT hC.1 (k := 2) (by decide)
    have hmn := ho m hom
    rw [hom] at hm0
    have eix : (7 : Int32) * I 420 19 + zoi (some m) = nI (7 * s + m) := by
      show (7 : Int32) * I 420 19 + nI m = _
      rw [h19, show (7 : Int32) = nI 7 from rfl, zmul, zadd]
    have e35 : I 435 ((7 : Int32) * I 420 19 + zoi (some m)).toNatClampNeg = 6 := by rw [eix, zclm (by omega), (g7 m hmn).2.2.2, hm6]; rfl
    exact ⟨I2, st _ (BX12_tellErrand_0 hL ⟨zoi (some m), by rw [e11]; exact hm0, fun q => absurd q (zneg (a := m) (by omega)), fun _ => ⟨by rw [eix]; exact zvin (by omega) (by decide), fun q => absurd e35 q, fun _ => ⟨I2, a2, err39 _ _ m2⟩⟩⟩), f2.S (by decide), errS I2 m2 (k13 f2) e0⟩
  | false =>
    have e0 : (.ok (t0 + 1) : zRt) = (if zfulE τ (zmE K W N (τ 0 0) t0) = true then .error (2, t0) else zgn t0) := by rw [← eo, if_neg (by rw [hful]; decide), er]
    have ez := e7 _ e0
    have eg : zgr (.ok t0) = .ok (t0 + 1) := er
    rw [eg] at m8 q3
    obtain ⟨R, eR⟩ : ∃ R : zRt, R = ztk K 59 (ztk K 3 (ztk K 3 (ztk K 2 (.ok (t0 + 1))))) := ⟨_, rfl⟩
    obtain ⟨wo1, ewo⟩ : ∃ wo1, wo1 = zwob V 0 11 (ztk K 3 (ztk K 2 (.ok (t0 + 1)))) (zwob V 0 11 (ztk K 2 (.ok (t0 + 1))) (zwom W N (τ 0 0) 4 true (.ok (t0 + 1)) wo)) := ⟨_, rfl⟩
    obtain ⟨C1, eC⟩ : ∃ C1 : Nat → Nat × Nat × Nat, C1 = fun i => if i = cn then (V (t0 + 2), V (t0 + 3), t0 + 2) else C i := ⟨_, rfl⟩
    rw [← eo, ← eR, ← ewo, ← eC] at ez
    rw [ez]
    rw [← eR, ← ewo] at m8
    have fin : ∀ out, zE (d + 5) kX12_tellErrand 39 [some (.ref 420), some (.int (zoi o)), none, none, none, none] [] Z I J (none, Z, out, J) → zE (d + 6) kX12_tell0 0 [some (.ref 420), none, none] [] Z I J (none, Z, out, J) := fun out h1 => st _ (first o _ ho hm0 (fun I2 _ _ q => absurd (q.symm.trans hful) (by decide)) (fun _ => h1))
    cases hR : R with
    | error e =>
      rw [hR] at m8
      exact ⟨I8, fin _ (go39 o _ (fun _ => rfl) (fun q => absurd m8.1.e0.2.2 q)), F8, m8, ⟨x19, hD8, hbr8⟩, fun t' q => absurd q (by simp)⟩
    | ok t' =>
      rw [hR] at m8
      rw [eR] at hR
      obtain ⟨t4, w4, -, -, x4⟩ := ztk_ok hR
      obtain ⟨t3, w3, y3, -, x3⟩ := ztk_ok w4
      obtain ⟨t2, w2, y2, -, x2⟩ := ztk_ok w3
      obtain ⟨t1, w1, y1, -, x1⟩ := ztk_ok w2
      have x0 : t1 = t0 + 1 := by cases w1; rfl
      have e3 : v4 = V (t0 + 2) := by rw [q5 t2 (by rw [eg]; exact w2) y2, x1, x0]
      have e6 : v6 = V (t0 + 3) := by rw [q7 t3 (by rw [eg]; exact w3) y3, x2, x1, x0]
      have l3 : V (t0 + 2) ≤ 9999 := by rw [← e3]; exact l5
      have l6 : V (t0 + 3) ≤ 9999 := by rw [← e6]; exact l7
      have z8 : ¬ 0 < I8 420 13 := by rw [m8.1.2.1]; decide
      have i3 : I3 420 11 = nI (t0 + 2) := by
        have := m3.1
        rw [eg, w2] at this
        rw [this.2.2, x1, x0]
      have hC8 : ∀ T', t0 ≤ T' → zMcn I8 T' τ cn C1 := fun T' hT' => by
        refine ⟨⟨by rw [fld 35 (by decide) (by decide) (by decide) (by decide) (by decide)]; exact hCn.1.1, hCn.1.2⟩, fun i hi => ?_⟩
        rw [eC]
        dsimp only
        rw [if_neg (by omega), row 442 (by decide), row 443 (by decide), row 444 (by decide)]
        obtain ⟨⟨q1, q2, q3⟩, q4⟩ := hCn.2 i hi
        exact ⟨⟨q1, q2, by omega⟩, q4⟩
      have hX8 : zMX I8 s br cd τ Λ := by
        unfold zMX
        rw [row 431 (by decide), row 429 (by decide), row 430 (by decide), row 441 (by decide), row 438 (by decide), row 432 (by decide), row 433 (by decide), row 434 (by decide), row 435 (by decide), row 436 (by decide), row 437 (by decide), row 439 (by decide), row 440 (by decide)]
        exact ⟨g1, ⟨g2, g3, g4, g5, g6⟩, g7, g8, g9, g10, fun p hp => (g11 p hp).rows (fun a p q => row a (by omega))⟩
      have hB8 : 4 * br ≤ t' ∧ cd ≤ t' ∧ I8 420 41 = nI (130 * s + br) ∧ I8 420 47 = nI (420 * s + cd) ∧ I8 420 12 = 0 := ⟨by omega, by omega, by rw [fld 41 (by decide) (by decide) (by decide) (by decide) (by decide)]; exact b3, by rw [fld 47 (by decide) (by decide) (by decide) (by decide) (by decide)]; exact b4, by rw [fld 12 (by decide) (by decide) (by decide) (by decide) (by decide)]; exact b5⟩
      have hN8 : zMnm I8 J K W X (τ 0 0) N := hN.same (fld 20 (by decide) (by decide) (by decide) (by decide) (by decide)) rfl
      cases hoo : o with
      | none =>
        exact ⟨I8, fin _ (go39 o _ (fun q => absurd q z8) (fun _ => ⟨fun q => by rw [hoo] at q; exact absurd q (by decide), fun _ => rfl⟩)), F8, m8, ⟨x19, hD8, hbr8⟩, fun t'' q => by cases q; exact ⟨br, cd, hB8, hX8, hN8, hC8 _ (by omega)⟩⟩
      | some m =>
        have hmn := ho m hoo
        rw [hoo] at hful
        have n6 : τ 4 m ≠ 6 := of_decide_eq_false hful
        have le6 := g1.2.2 m hmn
        obtain ⟨y, ey⟩ : ∃ y, y = 42 * s + 6 * m + τ 4 m := ⟨_, rfl⟩
        have hy : y < 84 := by omega
        have eix : (7 : Int32) * I8 420 19 + zoi (some m) = nI (7 * s + m) := by
          show (7 : Int32) * I8 420 19 + nI m = _
          rw [x19, show (7 : Int32) = nI 7 from rfl, zmul, zadd]
        have e35 : I8 435 (7 * s + m) = nI (τ 4 m) := by rw [row 435 (by decide)]; exact (g7 m hmn).2.2.2
        have eyy : (((42 : Int32) * (I8 420 19)) + ((6 : Int32) * zoi (some m))) + (I8 435 (((7 : Int32) * (I8 420 19)) + zoi (some m)).toNatClampNeg) = nI y := by
          rw [eix, zclm (by omega), e35, x19]
          show (42 : Int32) * nI s + (6 : Int32) * nI m + nI (τ 4 m) = nI y
          rw [show (42 : Int32) = nI 42 from rfl, show (6 : Int32) = nI 6 from rfl, zmul, zmul, zadd, zadd, ey]
        obtain ⟨I10, e10⟩ : ∃ I10 : zI, I10 = zu I8 436 y (nI v4) := ⟨_, rfl⟩
        obtain ⟨I11, e11'⟩ : ∃ I11 : zI, I11 = zu I10 437 y (nI v6) := ⟨_, rfl⟩
        obtain ⟨I12, e12⟩ : ∃ I12 : zI, I12 = zu I11 435 (7 * s + m) (nI (τ 4 m + 1)) := ⟨_, rfl⟩
        have r12 : ∀ a, a ≠ 435 → a ≠ 436 → a ≠ 437 → I12 a = I8 a := fun a p1 p2 p3 => by rw [e12, zu_ne p1, e11', zu_ne p3, e10, zu_ne p2]
        have hs6 : zsum (τ 4) 0 (τ 0 0) ≤ 6 * 6 + 5 := by
          have q1 := zsum_up (f := fun j => if j = m then τ 4 m else 6) (g := fun j => if j = m then τ 4 m + 1 else 6) (m := m) (fun j hj => by simp [hj]) (by simp) (τ 0 0) 0 (Nat.zero_le _) (by omega)
          have q2 : zsum (fun j => if j = m then τ 4 m + 1 else 6) 0 (τ 0 0) ≤ 6 * τ 0 0 := zsum_le (fun j _ _ => by split <;> omega)
          have q3 : zsum (τ 4) 0 (τ 0 0) ≤ zsum (fun j => if j = m then τ 4 m else 6) 0 (τ 0 0) := zsum_mono (fun j _ hj => by
            by_cases e : j = m
            · rw [if_pos e, e]; exact Nat.le_refl _
            · rw [if_neg e]; exact g1.2.2 j (by omega))
          omega
        have c49 : cn < 49 := by have := hCn.1.2; omega
        have w35 : I12 420 35 = nI cn := by rw [r12 420 (by decide) (by decide) (by decide), fld 35 (by decide) (by decide) (by decide) (by decide) (by decide)]; exact hCn.1.1
        have nc := M_notesCorner (d := d + 4) (J := J) hL (x1 := I3 420 11) (x2 := nI v4) (x3 := nI v6) w35 c49
        obtain ⟨I', eI⟩ : ∃ I' : zI, I' = zu (zu (zu (zu I12 442 cn (nI v4)) 443 cn (nI v6)) 444 cn (I3 420 11)) 420 35 (nI (cn + 1)) := ⟨_, rfl⟩
        rw [← eI] at nc
        have ra : ∀ a, a ≠ 420 → ¬ (442 ≤ a ∧ a ≤ 444) → I' a = I12 a := fun a p1 p3 => by rw [eI, zu_ne p1, zu_ne (by omega), zu_ne (by omega), zu_ne (by omega)]
        have ka : ∀ k, k ≠ 35 → I' 420 k = I8 420 k := fun k p2 => by rw [eI, zu_k p2, zu_ne (by decide), zu_ne (by decide), zu_ne (by decide), r12 420 (by decide) (by decide) (by decide)]
        have tl := go39 o (none, Z, I', J) (fun q => absurd q z8) (fun _ => ⟨fun _ => by
          rw [hoo]
          refine ⟨by rw [eix]; exact zvin (by omega) (by decide), fun y9 ey9 => ?_⟩
          rw [eyy] at ey9
          refine ⟨by rw [ey9]; exact zvin hy (by decide), fun y10 ey10 => ⟨by rw [ey9]; exact zvin hy (by decide), fun y11 ey11 => ?_⟩⟩
          rw [ey9, zclm (by omega), ← e10] at ey10
          rw [ey9, zclm (by omega), ey10, ← e11'] at ey11
          have v19 : (7 : Int32) * y11 420 19 + zoi (some m) = nI (7 * s + m) := by rw [ey11, e11', zu_ne (by decide), e10, zu_ne (by decide)]; exact eix
          refine ⟨by rw [v19]; exact zvin (by omega) (by decide), by rw [v19]; exact zvin (by omega) (by decide), fun y12 ey12 => ⟨I', ?_, rfl⟩⟩
          have v35 : y11 435 (7 * s + m) = nI (τ 4 m) := by rw [ey11, e11', zu_ne (by decide), e10, zu_ne (by decide)]; exact e35
          rw [v19, zclm (by omega), v35, zadd1, ey11, ← e12] at ey12
          rw [ey12]; exact nc, fun q => absurd (by rw [hoo]; exact znn (a := m) (by omega)) q⟩)
        have FS : zfS s I8 I' := by
          rw [eI, e12, e11', e10]
          exact ((((zfS.put (n := 42) (by decide) (by decide) (by decide) (by omega) (by omega)).tr (zfS.put (n := 42) (by decide) (by decide) (by decide) (by omega) (by omega))).tr (zfS.put (n := 7) (by decide) (by decide) (by decide) (by omega) (by omega))).tr (((zfS.putc (by decide) (by decide)).tr (zfS.putc (by decide) (by decide))).tr (zfS.putc (by decide) (by decide)))).tr ((zf4.put (F := [35]) (by decide)).S (by decide))
        have m' : zMc I' K P (.ok t') wo1 := by
          have q12 : zMc I12 K P (.ok t') wo1 := by rw [e12, e11', e10]; exact ((m8.pt (by decide)).pt (by decide)).pt (by decide)
          have f : zf4 [35] (zu (zu (zu I12 442 cn (nI v4)) 443 cn (nI v6)) 444 cn (I3 420 11)) I' := by rw [eI]; exact zf4.put (by decide)
          have q1 : zMc (zu (zu (zu I12 442 cn (nI v4)) 443 cn (nI v6)) 444 cn (I3 420 11)) K P (.ok t') wo1 := ((q12.pt (by decide)).pt (by decide)).pt (by decide)
          exact ⟨q1.1.f4 f (by decide) (by decide) (by decide), fun t5 q => (q1.2 t5 q).f4 f (by decide) (by decide)⟩
        have rr : ∀ a, a ≠ 420 → a ≠ 435 → a ≠ 436 → a ≠ 437 → ¬ (442 ≤ a ∧ a ≤ 444) → I' a = I8 a := fun a p1 p2 p3 p4 p5 => (ra a p1 p5).trans (r12 a p2 p3 p4)
        refine ⟨I', fin _ tl, F8.tr FS, m', ⟨by rw [ka 19 (by decide)]; exact x19, hD8.row (rr 432 (by decide) (by decide) (by decide) (by decide) (by decide)) (rr 433 (by decide) (by decide) (by decide) (by decide) (by decide)), by rw [ka 41 (by decide)]; exact hbr8⟩, fun t'' q => ?_⟩
        cases q
        obtain ⟨τ1, eτ⟩ : ∃ τ1 : Nat → Nat → Nat, τ1 = zu (zu (zu τ 5 (6 * m + τ 4 m) (V (t0 + 2))) 6 (6 * m + τ 4 m) (V (t0 + 3))) 4 m (τ 4 m + 1) := ⟨_, rfl⟩
        show zMo I' J s K W X t' (zu (zu (zu τ 5 (6 * m + τ 4 m) (V (t0 + 2))) 6 (6 * m + τ 4 m) (V (t0 + 3))) 4 m (τ 4 m + 1)) Λ N (cn + 1) C1
        rw [← eτ]
        have x4' : ∀ b, b ≠ 4 → b ≠ 5 → b ≠ 6 → τ1 b = τ b := fun b p q r => by rw [eτ, zu_ne p, zu_ne r, zu_ne q]
        have y4' : τ1 4 m = τ 4 m + 1 := by rw [eτ, zu_eq]
        have z4' : ∀ k, k ≠ m → τ1 4 k = τ 4 k := fun k p => by rw [eτ, zu_k p, zu_ne (by decide), zu_ne (by decide)]
        have y5' : τ1 5 (6 * m + τ 4 m) = V (t0 + 2) := by rw [eτ, zu_ne (by decide), zu_ne (by decide), zu_eq]
        have y6' : τ1 6 (6 * m + τ 4 m) = V (t0 + 3) := by rw [eτ, zu_ne (by decide), zu_eq]
        have z5' : ∀ k, k ≠ 6 * m + τ 4 m → τ1 5 k = τ 5 k ∧ τ1 6 k = τ 6 k := fun k p => ⟨by rw [eτ, zu_ne (by decide), zu_ne (by decide), zu_k p], by rw [eτ, zu_ne (by decide), zu_k p, zu_ne (by decide)]⟩
        have i435m : I' 435 (7 * s + m) = nI (τ 4 m + 1) := by rw [ra 435 (by decide) (by decide), e12, zu_eq]
        have i435n : ∀ j, j ≠ 7 * s + m → I' 435 j = I8 435 j := fun j hj => by rw [ra 435 (by decide) (by decide), e12, zu_k hj, e11', zu_ne (by decide), e10, zu_ne (by decide)]
        have i436y : I' 436 y = nI v4 := by rw [ra 436 (by decide) (by decide), e12, zu_ne (by decide), e11', zu_ne (by decide), e10, zu_eq]
        have i437y : I' 437 y = nI v6 := by rw [ra 437 (by decide) (by decide), e12, zu_ne (by decide), e11', zu_eq]
        have i43n : ∀ j, j ≠ y → I' 436 j = I8 436 j ∧ I' 437 j = I8 437 j := fun j hj => ⟨by rw [ra 436 (by decide) (by decide), e12, zu_ne (by decide), e11', zu_ne (by decide), e10, zu_k hj], by rw [ra 437 (by decide) (by decide), e12, zu_ne (by decide), e11', zu_k hj, e10, zu_ne (by decide)]⟩
        obtain ⟨c1, c2, c3, c4, c5⟩ := hB8
        obtain ⟨d1, d2, d3, d4, d5, d6, d7⟩ := hX8
        refine ⟨br, cd, ⟨c1, c2, by rw [ka 41 (by decide)]; exact c3, by rw [ka 47 (by decide)]; exact c4, by rw [ka 12 (by decide)]; exact c5⟩, ?_, ?_, ?_⟩
        · unfold zMX
          rw [x4' 0 (by decide) (by decide) (by decide), x4' 1 (by decide) (by decide) (by decide), x4' 2 (by decide) (by decide) (by decide), x4' 3 (by decide) (by decide) (by decide), x4' 7 (by decide) (by decide) (by decide), x4' 8 (by decide) (by decide) (by decide), rr 431 (by decide) (by decide) (by decide) (by decide) (by decide), rr 429 (by decide) (by decide) (by decide) (by decide) (by decide), rr 430 (by decide) (by decide) (by decide) (by decide) (by decide), rr 441 (by decide) (by decide) (by decide) (by decide) (by decide), rr 438 (by decide) (by decide) (by decide) (by decide) (by decide), rr 432 (by decide) (by decide) (by decide) (by decide) (by decide), rr 433 (by decide) (by decide) (by decide) (by decide) (by decide), rr 434 (by decide) (by decide) (by decide) (by decide) (by decide), rr 439 (by decide) (by decide) (by decide) (by decide) (by decide), rr 440 (by decide) (by decide) (by decide) (by decide) (by decide)]
          refine ⟨⟨d1.1, d1.2.1, fun k hk' => ?_⟩, d2, fun k hk' => ⟨(d3 k hk').1, (d3 k hk').2.1, (d3 k hk').2.2.1, ?_⟩, fun k k1 k2 => ⟨(d4 k k1 k2).1, ?_⟩, fun k i hk' hi => ?_, d6, fun p hp => (d7 p hp).rows (fun a p q => rr a (by omega) (by omega) (by omega) (by omega) (by omega))⟩
          · by_cases e : k = m
            · rw [e, y4']; omega
            · rw [z4' k e]; exact d1.2.2 k hk'
          · by_cases e : k = m
            · rw [e, i435m, y4']
            · rw [i435n _ (by omega), z4' k e]; exact (d3 k hk').2.2.2
          · rw [i435n _ (by omega)]; exact (d4 k k1 k2).2
          · by_cases e : k = m
            · rw [e] at hi hk' ⊢
              rw [y4'] at hi
              by_cases ei : i = τ 4 m
              · rw [ei, ← ey, i436y, i437y, y5', y6', e3, e6]; exact ⟨rfl, rfl⟩
              · rw [(i43n _ (by omega)).1, (i43n _ (by omega)).2, (z5' _ (by omega)).1, (z5' _ (by omega)).2]; exact d5 m i hk' (by omega)
            · rw [z4' k e] at hi
              have := d1.2.2 k hk'
              rw [(i43n _ (by omega)).1, (i43n _ (by omega)).2, (z5' _ (by omega)).1, (z5' _ (by omega)).2]; exact d5 k i hk' hi
        · rw [x4' 0 (by decide) (by decide) (by decide)]
          exact hN8.same (ka 20 (by decide)) rfl
        · have c442 : I' 442 cn = nI v4 := by rw [eI, zu_ne (by decide), zu_ne (by decide), zu_ne (by decide), zu_eq]
          have c443 : I' 443 cn = nI v6 := by rw [eI, zu_ne (by decide), zu_ne (by decide), zu_eq]
          have c444 : I' 444 cn = nI (t0 + 2) := by rw [eI, zu_ne (by decide), zu_eq]; exact i3
          have cne : ∀ a, 442 ≤ a → a ≤ 444 → ∀ j, j ≠ cn → I' a j = I a j := fun a p1 p2 j hj => by
            rw [eI, zu_ne (by omega)]
            have : ∀ {A : zI} {b : Nat} {v : Int32}, (zu A b cn v) a j = A a j := fun {A b v} => by
              by_cases e : a = b
              · subst e; exact zu_k hj
              · rw [zu_ne e]
            rw [this, this, this, r12 a (by omega) (by omega) (by omega), row a (by omega)]
          refine ⟨⟨by rw [eI, zu_eq], ?_⟩, fun i hi => ?_⟩
          · rw [x4' 0 (by decide) (by decide) (by decide), zsum_up (f := τ 4) (m := m) z4' y4' _ _ (Nat.zero_le _) (by omega)]
            have := hCn.1.2; omega
          · rw [eC]
            dsimp only
            by_cases e : i = cn
            · rw [if_pos e, e, c442, c443, c444, e3, e6]
              exact ⟨⟨l3, l6, by show t0 + 2 < t'; omega⟩, rfl, rfl, rfl⟩
            · rw [if_neg e, cne 442 (by decide) (by decide) i e, cne 443 (by decide) (by decide) i e, cne 444 (by decide) (by decide) i e]
              obtain ⟨⟨q1, q2, q3⟩, q4⟩ := hCn.2 i (by omega)
              exact ⟨⟨q1, q2, by omega⟩, q4⟩
end
