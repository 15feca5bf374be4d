/-! the reference's reader: SEED, DYE, PILLAR -/
section
variable {d : Nat} {Z : zZ} {I I' : zI} {J J' : zJ} {t u s t0 T T' cn br cd : Nat} {K P V W X N : Nat → Nat} {τ τ' : Nat → Nat → Nat} {Λ Λ' : Nat → Option zLaw} {C : Nat → Nat × Nat × Nat} {wo : Option (Nat × Nat)} {r : zRt}
theorem M_seed (hL : zLY Z t u) (hs : s < 2) (hT : zTM I J K P V X) (hB : zMB K P V W X) (h : zMS I J s K P W X (.ok t0, wo, τ, Λ, N, cn, C)) (hk : K t0 = 135) : ∃ I', zE (d + 6) kX12_tell0 0 [some (.ref 420), none, none] [] Z I J (none, Z, I', J) ∧ zfS s I I' ∧ zMS I' J s K P W X (zsemi K (zpSeed K V t0 wo τ Λ N cn C)) := by
  obtain ⟨hC, ⟨h19, hD, hbr⟩, hO⟩ := h
  obtain ⟨hv, ex⟩ := M_kind hT hC.1
  rw [hk] at ex
  obtain ⟨I2, a2, m2, f2⟩ := M_goesOnC (d := d + 4) hL hT hC (fun t1 q => by cases q; rw [hk]; decide)
  have T2 := hT.f4 f2
  obtain ⟨v3, I4, a4, m4, f4, l4, q4⟩ := M_bounded (d := d + 3) hL T2 hB (a := 0) (b := 9999) (by decide) (by decide) m2
  have s2 : I2 420 19 = nI s := by rw [f2.2 19 (by decide)]; exact h19
  obtain ⟨I5, e5⟩ : ∃ I5 : zI, I5 = zu I4 441 s (nI v3) := ⟨_, rfl⟩
  have T5 : zTM I5 J K P V X := by rw [e5]; exact (T2.f4 f4).pt (by decide)
  obtain ⟨I9, a9, m9, f9⟩ := M_mustC (d := d + 3) hL T5 hB (k := 59) (by rw [e5]; exact m4.pt (by decide)) (by decide) (by decide)
  have k5 : ∀ k, I5 420 k = I4 420 k := fun k => by rw [e5, zu_ne (by decide)]
  have fld : ∀ k, k ≠ 11 → k ≠ 13 → k ≠ 14 → k ≠ 15 → k ≠ 16 → I9 420 k = I 420 k := fun k p1 p2 p3 p4 p5 => by
    have n3 : k ∉ [11, 13, 14] := by simp; omega
    have n5 : k ∉ [11, 13, 14, 15, 16] := by simp; omega
    rw [f9.2 k n3, k5, f4.2 k n5, f2.2 k n3]
  have row : ∀ a, a ≠ 420 → a ≠ 441 → I9 a = I a := fun a p1 p2 => by rw [f9.1 a p1, e5, zu_ne p2, f4.1 a p1, f2.1 a p1]
  refine ⟨I9, BX12_tell0_0 hL ⟨hv, fun q => absurd q (by rw [ex]; decide), fun q => absurd (ex.symm.trans q) (by decide), fun q => absurd (ex.symm.trans q) (by decide), fun q => absurd (ex.symm.trans q) (by decide), fun q => absurd (ex.symm.trans q) (by decide), fun q => absurd (ex.symm.trans q) (by decide), fun q => absurd (ex.symm.trans q) (by decide), fun q => absurd (ex.symm.trans q) (by decide), fun _ => ⟨I2, a2, nI v3, I4, a4, by rw [s2]; exact zvin hs (by decide), fun y5 ey5 => ⟨I9, by rw [ey5, s2, zclm (by omega), ← e5]; exact a9, rfl⟩⟩⟩, ?_, m9, ⟨?_, ?_, ?_⟩, fun t' q => ?_⟩
  · refine ((f2.S (by decide)).tr (f4.S (by decide))).tr ((?_ : zfS s I4 I5).tr (f9.S (by decide)))
    rw [e5]; exact zfS.put (n := 1) (by decide) (by decide) (by decide) (by omega) (by omega)
  · rw [fld 19 (by decide) (by decide) (by decide) (by decide) (by decide)]; exact h19
  · exact hD.row (row 432 (by decide) (by decide)) (row 433 (by decide) (by decide))
  · rw [fld 41 (by decide) (by decide) (by decide) (by decide) (by decide)]; exact hbr
  · obtain ⟨t2, w2, y2, -, x2⟩ := ztk_ok q
    obtain ⟨t1, w1, y1, -, x1⟩ := ztk_ok (r := zgn t0) w2
    have x0 := (zgn_ok w1).2
    have e3 : v3 = V (t0 + 1) := by rw [q4 t1 w1 y1, x0]
    have hO0 : zMo I J s K W X t0 τ Λ N cn C := hO t0 rfl
    obtain ⟨br, cd, ⟨b1, b2, b3, b4, b5⟩, ⟨g1, ⟨g2, g3, g4, g5, g6⟩, g7, g8, g9, g10, g11⟩, hN, hCn⟩ := hO0
    obtain ⟨τ1, eτ⟩ : ∃ τ1 : Nat → Nat → Nat, τ1 = zu τ 0 3 (V (t0 + 1)) := ⟨_, rfl⟩
    have z1 : τ1 0 3 = V (t0 + 1) := by rw [eτ, zu_eq]
    have z3 : ∀ k, k ≠ 3 → τ1 0 k = τ 0 k := fun k p => by rw [eτ, zu_k p]
    have z4 : ∀ b, b ≠ 0 → τ1 b = τ b := fun b p => by rw [eτ, zu_ne p]
    show zMo I9 J s K W X t' (zu τ 0 3 (V (t0 + 1))) Λ N cn C
    rw [← eτ]
    have r441 : I9 441 s = nI (V (t0 + 1)) := by rw [f9.1 441 (by decide), e5, zu_eq, e3]
    refine ⟨br, cd, ⟨by omega, by omega, by rw [fld 41 (by decide) (by decide) (by decide) (by decide) (by decide)]; exact b3, by rw [fld 47 (by decide) (by decide) (by decide) (by decide) (by decide)]; exact b4, by rw [fld 12 (by decide) (by decide) (by decide) (by decide) (by decide)]; exact b5⟩, ?_, ?_, ?_⟩
    · unfold zMX
      rw [z1, z3 1 (by decide), z3 2 (by decide), z3 0 (by decide), z3 4 (by decide), z4 1 (by decide), z4 2 (by decide), z4 3 (by decide), z4 4 (by decide), z4 5 (by decide), z4 6 (by decide), z4 7 (by decide), z4 8 (by decide), r441, row 429 (by decide) (by decide), row 430 (by decide) (by decide), row 431 (by decide) (by decide), row 438 (by decide) (by decide), row 432 (by decide) (by decide), row 433 (by decide) (by decide), row 434 (by decide) (by decide), row 435 (by decide) (by decide), row 436 (by decide) (by decide), row 437 (by decide) (by decide), row 439 (by decide) (by decide), row 440 (by decide) (by decide)]
      exact ⟨g1, ⟨g2, g3, g4, rfl, g6⟩, g7, g8, g9, g10, fun p hp => (g11 p hp).rows (fun a p q => row a (by omega) (by omega))⟩
    · rw [z3 0 (by decide)]
      exact hN.same (fld 20 (by decide) (by decide) (by decide) (by decide) (by decide)) rfl
    · exact hCn.same (fld 35 (by decide) (by decide) (by decide) (by decide) (by decide)) (fun a p q => row a (by omega) (by omega)) (by omega) (z3 0 (by decide)) (fun m _ => by rw [z4 4 (by decide)])
theorem zoi_neg {o : Option Nat} (h : ∀ m, o = some m → m < 100) : (zoi o < 0 ↔ o = none) := by
  cases o with
  | none => exact ⟨fun _ => rfl, fun _ => by decide⟩
  | some m => exact ⟨fun q => absurd q (zneg (by have := h m rfl; omega)), fun q => absurd q (by simp)⟩
theorem M_dye (hL : zLY Z t u) (hs : s < 2) (hT : zTM I J K P V X) (hB : zMB K P V W X) (h : zMS I J s K P W X (.ok t0, wo, τ, Λ, N, cn, C)) (hk : K t0 = 134) : ∃ I', zE (d + 6) kX12_tell0 0 [some (.ref 420), none, none] [] Z I J (none, Z, I', J) ∧ zfS s I I' ∧ zMS I' J s K P W X (zsemi K (zpDye K V W t0 wo τ Λ N cn C)) := by
  obtain ⟨hC, ⟨h19, hD, hbr⟩, hO⟩ := h
  have hO0 : zMo I J s K W X t0 τ Λ N cn C := hO t0 rfl
  obtain ⟨br, cd, ⟨b1, b2, b3, b4, b5⟩, ⟨g1, ⟨g2, g3, g4, g5, g6⟩, g7, g8, g9, g10, g11⟩, hN, hCn⟩ := hO0
  obtain ⟨hv, ex⟩ := M_kind hT hC.1
  rw [hk] at ex
  obtain ⟨I2, a2, m2, f2⟩ := M_goesOnC (d := d + 4) hL hT hC (fun t1 q => by cases q; rw [hk]; decide)
  have T2 := hT.f4 f2
  obtain ⟨v3, I4, a4, m4, f4, q4, q4'⟩ := M_known (d := d + 2) hL T2 hB (fun _ => hN.f4 f2 (by decide)) m2
  have T4 := T2.f4 f4
  obtain ⟨v5, I6, a6, m6, f6, l6, q6⟩ := M_bounded (d := d + 3) hL T4 hB (a := 0) (b := 9) (by decide) (by decide) m4
  have T6 := T4.f4 f6
  obtain ⟨I7, a7, m7, f7⟩ := M_mustC (d := d + 3) hL T6 hB m6 (k := 59) (by decide) (by decide)
  have fld : ∀ k, k ≠ 11 → k ≠ 13 → k ≠ 14 → k ≠ 15 → k ≠ 16 → I7 420 k = I 420 k := fun k p1 p2 p3 p4 p5 => by
    have n3 : k ∉ [11, 13, 14] := by simp; omega
    have n5 : k ∉ [11, 13, 14, 15, 16] := by simp; omega
    rw [f7.2 k n3, f6.2 k n5, f4.2 k n5, f2.2 k n3]
  have row : ∀ a, a ≠ 420 → I7 a = I a := fun a p1 => by rw [f7.1 a p1, f6.1 a p1, f4.1 a p1, f2.1 a p1]
  have F7 : zfS s I I7 := ((f2.S (by decide)).tr (f4.S (by decide))).tr ((f6.S (by decide)).tr (f7.S (by decide)))
  obtain ⟨R, eR⟩ : ∃ R : zRt, R = ztk K 59 (ztk K 3 (ztk K 2 (zgn t0))) := ⟨_, rfl⟩
  have m7' : zMc I7 K P R (zwob V 0 9 (ztk K 2 (zgn t0)) (zwom W N (τ 0 0) 4 true (zgn t0) wo)) := by rw [eR]; exact m7
  have st : ∀ I8, (∀ q : I7 420 13 = 0, (v3 < 0 → I8 = I7) ∧ (¬ v3 < 0 → (vp_in (((7 : Int32) * (I7 420 19)) + v3) 14 ∧ (∀ I28 : zI, I28 = zu I7 434 (((7 : Int32) * (I7 420 19)) + v3).toNatClampNeg (nI v5) → I28 = I8)))) → (¬ I7 420 13 = 0 → I8 = I7) → zE (d + 6) kX12_tell0 0 [some (.ref 420), none, none] [] Z I J (none, Z, I8, J) := fun I8 h1 h2 =>
    BX12_tell0_0 hL ⟨hv, fun q => absurd q (by rw [ex]; decide), fun q => absurd (ex.symm.trans q) (by decide), fun q => absurd (ex.symm.trans q) (by decide), fun q => absurd (ex.symm.trans q) (by decide), fun q => absurd (ex.symm.trans q) (by decide), fun q => absurd (ex.symm.trans q) (by decide), fun q => absurd (ex.symm.trans q) (by decide), fun _ => ⟨I2, a2, v3, I4, a4, nI v5, I6, a6, I7, a7, fun q => by rw [h2 q], fun q => ⟨fun q2 => by rw [(h1 q).1 q2], fun q2 => ⟨((h1 q).2 q2).1, fun y ey => by rw [((h1 q).2 q2).2 y ey]⟩⟩⟩, fun q => absurd (ex.symm.trans q) (by decide)⟩
  have e7 : zsemi K (zpDye K V W t0 wo τ Λ N cn C) = (R, zwob V 0 9 (ztk K 2 (zgn t0)) (zwom W N (τ 0 0) 4 true (zgn t0) wo), (match zfnd N (W (t0 + 1)) (τ 0 0) 0 with | none => τ | some m => zu τ 3 m (V (t0 + 2))), Λ, N, cn, C) := by rw [eR]; rfl
  rw [e7]
  cases hR : R with
  | error e =>
    rw [hR] at m7'
    exact ⟨I7, st I7 (fun q => absurd q m7'.1.e0.1) (fun _ => rfl), F7, m7', ⟨by rw [fld 19 (by decide) (by decide) (by decide) (by decide) (by decide)]; exact h19, hD.row (row 432 (by decide)) (row 433 (by decide)), by rw [fld 41 (by decide) (by decide) (by decide) (by decide) (by decide)]; exact hbr⟩, fun t' q => absurd q (by simp)⟩
  | ok t' =>
    rw [hR] at m7'
    rw [eR] at hR
    obtain ⟨t3, w3, -, -, x3⟩ := ztk_ok hR
    obtain ⟨t2, w2, y2, -, x2⟩ := ztk_ok w3
    obtain ⟨t1, w1, y1, -, x1⟩ := ztk_ok w2
    have x0 := (zgn_ok w1).2
    have w1' : zgr (.ok t0) = .ok t1 := w1
    have e3 : v3 = zoi (zfnd N (W (t0 + 1)) (τ 0 0) 0) := by rw [q4 t1 w1' (by rw [w1', ← w1, w2]; trivial), x0]
    have e5 : v5 = V (t0 + 2) := by rw [q6 t2 (by rw [w1']; rw [← w1]; exact w2) y2, x1, x0]
    have z13 : I7 420 13 = 0 := m7'.1.2.1
    have x19 : I7 420 19 = nI s := by rw [fld 19 (by decide) (by decide) (by decide) (by decide) (by decide)]; exact h19
    have hO7 : zMo I7 J s K W X t' τ Λ N cn C := ⟨br, cd, ⟨by omega, by omega, by rw [fld 41 (by decide) (by decide) (by decide) (by decide) (by decide)]; exact b3, by rw [fld 47 (by decide) (by decide) (by decide) (by decide) (by decide)]; exact b4, by rw [fld 12 (by decide) (by decide) (by decide) (by decide) (by decide)]; exact b5⟩, by
      unfold zMX
      rw [row 431 (by decide), row 429 (by decide), row 430 (by decide), row 441 (by decide), row 438 (by decide), row 432 (by decide), row 433 (by decide), row 434 (by decide), row 435 (by decide), row 436 (by decide), row 437 (by decide), row 439 (by decide), row 440 (by decide)]
      exact ⟨g1, ⟨g2, g3, g4, g5, g6⟩, g7, g8, g9, g10, fun p hp => (g11 p hp).rows (fun a p q => row a (by omega))⟩, hN.same (fld 20 (by decide) (by decide) (by decide) (by decide) (by decide)) rfl, hCn.same (fld 35 (by decide) (by decide) (by decide) (by decide) (by decide)) (fun a p q => row a (by omega)) (by omega) rfl (fun _ _ => rfl)⟩
    have hbr7 : ∃ br, br ≤ 130 ∧ I7 420 41 = nI (130 * s + br) := by rw [fld 41 (by decide) (by decide) (by decide) (by decide) (by decide)]; exact hbr
    have hD7 : zDr I7 := hD.row (row 432 (by decide)) (row 433 (by decide))
    cases hf : zfnd N (W (t0 + 1)) (τ 0 0) 0 with
    | none =>
      rw [hf] at e3
      exact ⟨I7, st I7 (fun _ => ⟨fun _ => rfl, fun q => absurd (by rw [e3]; decide) q⟩) (fun _ => rfl), F7, m7', ⟨x19, hD7, hbr7⟩, fun t'' q => by cases q; exact hO7⟩
    | some m =>
      rw [hf] at e3
      have hm := (zfnd_lt _ _ _ hf).2.1
      have h7 := g1.1
      have e3 : v3 = nI m := e3
      have eix : (7 : Int32) * I7 420 19 + v3 = nI (7 * s + m) := by rw [x19, e3, show (7 : Int32) = nI 7 from rfl, zmul, zadd]
      have nn : ¬ v3 < 0 := by rw [e3]; exact zneg (by omega)
      obtain ⟨I8, e8⟩ : ∃ I8 : zI, I8 = zu I7 434 (7 * s + m) (nI (V (t0 + 2))) := ⟨_, rfl⟩
      have r8 : ∀ a, a ≠ 434 → I8 a = I7 a := fun a p => by rw [e8, zu_ne p]
      refine ⟨I8, st I8 (fun _ => ⟨fun q => absurd q nn, fun _ => ⟨by rw [eix]; exact zvin (by omega) (by decide), fun y ey => by rw [ey, eix, zclm (by omega), e5, ← e8]⟩⟩) (fun q => absurd z13 q), F7.tr (by rw [e8]; exact zfS.put (n := 7) (by decide) (by decide) (by decide) (by omega) (by omega)), by rw [e8]; exact m7'.pt (by decide), ⟨by rw [r8 420 (by decide)]; exact x19, hD7.row (r8 432 (by decide)) (r8 433 (by decide)), by rw [r8 420 (by decide)]; exact hbr7⟩, fun t'' q => ?_⟩
      cases q
      obtain ⟨br', cd', ⟨c1, c2, c3, c4, c5⟩, ⟨d1, d2, d3, d4, d5, d6, d7⟩, dN, dC⟩ := hO7
      show zMo I8 J s K W X t' (zu τ 3 m (V (t0 + 2))) Λ N cn C
      have z4 : ∀ b, b ≠ 3 → (zu τ 3 m (V (t0 + 2))) b = τ b := fun b p => zu_ne p
      refine ⟨br', cd', ⟨c1, c2, by rw [r8 420 (by decide)]; exact c3, by rw [r8 420 (by decide)]; exact c4, by rw [r8 420 (by decide)]; exact c5⟩, ?_, ?_, ?_⟩
      · unfold zMX
        rw [z4 0 (by decide), z4 1 (by decide), z4 2 (by decide), z4 4 (by decide), z4 5 (by decide), z4 6 (by decide), z4 7 (by decide), z4 8 (by decide), r8 431 (by decide), r8 429 (by decide), r8 430 (by decide), r8 441 (by decide), r8 438 (by decide), r8 432 (by decide), r8 433 (by decide), r8 435 (by decide), r8 436 (by decide), r8 437 (by decide), r8 439 (by decide), r8 440 (by decide)]
        refine ⟨d1, d2, fun k hk' => ⟨(d3 k hk').1, (d3 k hk').2.1, ?_, (d3 k hk').2.2.2⟩, fun k k1 k2 => ⟨?_, (d4 k k1 k2).2⟩, d5, d6, fun p hp => (d7 p hp).rows (fun a p q => r8 a (by omega))⟩
        · by_cases e : k = m
          · rw [e, e8, zu_eq, zu_eq]
          · rw [e8, zu_k (by omega), zu_k e]; exact (d3 k hk').2.2.1
        · rw [e8, zu_k (by omega)]; exact (d4 k k1 k2).1
      · rw [z4 0 (by decide)]; exact dN.same (by rw [r8 420 (by decide)]) rfl
      · exact dC.same (by rw [r8 420 (by decide)]) (fun a p q => r8 a (by omega)) (Nat.le_refl _) (by rw [z4 0 (by decide)]) (fun k _ => by rw [z4 4 (by decide)])
theorem M_roomFor (hL : zLY Z t u) (hT : zTM I J K P V X) (h : zMc I K P (.ok t0) wo) (hk0 : K t0 ≠ 0) {k m : Nat} (hk : k < 100) (hm : m < 100) : ∃ I', zE (d + 2) kX12_roomFor 0 [some (.ref 420), some (.int (nI k)), some (.int (nI m))] [] Z I J (none, Z, I', J) ∧ zMc I' K P (if k = m then .error (2, t0) else zgn t0) wo ∧ zf4 [11, 13, 14] I I' := by
  have e : nI k = nI m ↔ k = m := zeq (by omega) (by omega)
  by_cases c : k = m
  · rw [if_pos c]
    obtain ⟨I2, a2, m2, f2⟩ := M_fail (d := d + 1) hL hT h.1 (k := 2) (by decide)
    have m2' : zMt I2 K P (.error (2, t0)) := m2
    exact ⟨I2, BX12_roomFor_0 _ _ hL ⟨fun q => absurd (e.mpr c) q, fun _ => ⟨I2, a2, fun _ => rfl, fun q => absurd q m2'.e0.1⟩⟩, zMc.err m2', f2.mono (by decide)⟩
  · rw [if_neg c]
    obtain ⟨I2, a2, m2, f2⟩ := M_goesOnC (d := d) hL hT h (fun t1 q => by cases q; exact hk0)
    exact ⟨I2, BX12_roomFor_0 _ _ hL ⟨fun _ => ⟨fun q => absurd h.1.2.1 q, fun _ => ⟨I2, a2, rfl⟩⟩, fun q => absurd (e.mp q) c⟩, m2, f2⟩
theorem M_pillar (hL : zLY Z t u) (hs : s < 2) (hT : zTM I J K P V X) (hB : zMB K P V W X) (h : zMS I J s K P W X (.ok t0, wo, τ, Λ, N, cn, C)) (hk : K t0 = 133) : ∃ I', zE (d + 6) kX12_tell0 0 [some (.ref 420), none, none] [] Z I J (none, Z, I', J) ∧ zfS s I I' ∧ zMS I' J s K P W X (zsemi K (zpPillar K V t0 wo τ Λ N cn C)) := by
  obtain ⟨hC, ⟨h19, hD, hbr⟩, hO⟩ := h
  have hO0 : zMo I J s K W X t0 τ Λ N cn C := hO t0 rfl
  obtain ⟨br, cd, ⟨b1, b2, b3, b4, b5⟩, ⟨g1, ⟨g2, g3, g4, g5, g6⟩, g7, g8, g9, g10, g11⟩, hN, hCn⟩ := hO0
  obtain ⟨hv, ex⟩ := M_kind hT hC.1
  rw [hk] at ex
  have h6 := g1.2.1
  obtain ⟨I1, a1, m1, f1⟩ := M_roomFor (d := d + 3) hL hT hC (by rw [hk]; decide) (k := τ 0 4) (m := 6) (by omega) (by decide)
  have a1' : zE (d + 5) kX12_roomFor 0 [some (.ref 420), some (.int (I 438 (I 420 19).toNatClampNeg)), some (.int 6)] [] Z I J (none, Z, I1, J) := by rw [h19, zclm (by omega), g6]; exact a1
  have st : ∀ I8, (¬ I1 420 13 = 0 → I8 = I1) → (I1 420 13 = 0 → zE (d + 5) kX12_tellPillar 0 [some (.ref 420), none] [] Z I1 J (none, Z, I8, J)) → zE (d + 6) kX12_tell0 0 [some (.ref 420), none, none] [] Z I J (none, Z, I8, J) := fun I8 h1 h2 =>
    BX12_tell0_0 hL ⟨hv, fun q => absurd q (by rw [ex]; decide), fun q => absurd (ex.symm.trans q) (by decide), fun q => absurd (ex.symm.trans q) (by decide), fun q => absurd (ex.symm.trans q) (by decide), fun q => absurd (ex.symm.trans q) (by decide), fun q => absurd (ex.symm.trans q) (by decide), fun _ => ⟨by rw [h19]; exact zvin hs (by decide), I1, a1', fun q => by rw [h1 q], fun q => ⟨I8, h2 q, rfl⟩⟩, fun q => absurd (ex.symm.trans q) (by decide), fun q => absurd (ex.symm.trans q) (by decide)⟩
  have k1 : ∀ k, k ≠ 11 → k ≠ 13 → k ≠ 14 → I1 420 k = I 420 k := fun k p1 p2 p3 => f1.2 k (by simp; omega)
  have err : ∀ e, zMc I1 K P (.error e) wo → (zsemi K (zpPillar K V t0 wo τ Λ N cn C)).1 = .error e → ∃ I', zE (d + 6) kX12_tell0 0 [some (.ref 420), none, none] [] Z I J (none, Z, I', J) ∧ zfS s I I' ∧ zMS I' J s K P W X (zsemi K (zpPillar K V t0 wo τ Λ N cn C)) := by
    intro e he hq
    refine ⟨I1, st I1 (fun _ => rfl) (fun q => absurd q he.1.e0.1), f1.S (by decide), ?_, ⟨by rw [k1 19 (by decide) (by decide) (by decide)]; exact h19, hD.row (f1.1 432 (by decide)) (f1.1 433 (by decide)), by rw [k1 41 (by decide) (by decide) (by decide)]; exact hbr⟩, fun t' q => by rw [hq] at q; exact absurd q (by simp)⟩
    rw [hq]; exact zMc.err he.1
  by_cases c6 : τ 0 4 = 6
  · rw [if_pos c6] at m1
    refine err _ m1 ?_
    show ztk K 59 (if τ 0 4 = 6 then .error (2, t0) else ztk K 3 (ztk K 3 (zgn t0))) = _
    rw [if_pos c6]; rfl
  rw [if_neg c6] at m1
  by_cases c400 : t0 = 400
  · have er : zgn t0 = .error (2, t0) := by unfold zgn; rw [if_pos c400]
    rw [er] at m1
    refine err _ m1 ?_
    show ztk K 59 (if τ 0 4 = 6 then .error (2, t0) else ztk K 3 (ztk K 3 (zgn t0))) = _
    rw [if_neg c6, er]; rfl
  have er : zgn t0 = .ok (t0 + 1) := by unfold zgn; rw [if_neg c400]
  have m1k : zMc I1 K P (.ok (t0 + 1)) wo := by rw [← er]; exact m1
  have T1 := hT.f4 f1
  have x19 : I1 420 19 = nI s := by rw [k1 19 (by decide) (by decide) (by decide)]; exact h19
  have x438 : I1 438 s = nI (τ 0 4) := by rw [f1.1 438 (by decide)]; exact g6
  obtain ⟨y, ey⟩ : ∃ y, y = 6 * s + τ 0 4 := ⟨_, rfl⟩
  have eix : (6 : Int32) * I1 420 19 + I1 438 (I1 420 19).toNatClampNeg = nI y := by rw [x19, zclm (by omega), x438, show (6 : Int32) = nI 6 from rfl, zmul, zadd, ey]
  obtain ⟨v3, I4, a4, m4, f4, l4, q4⟩ := M_bounded (d := d + 2) hL T1 hB (a := 0) (b := 10) (by decide) (by decide) m1k
  obtain ⟨I5, e5⟩ : ∃ I5 : zI, I5 = zu I4 439 y (nI v3) := ⟨_, rfl⟩
  have T5 : zTM I5 J K P V X := by rw [e5]; exact (T1.f4 f4).pt (by decide)
  obtain ⟨v6, I7, a7, m7, f7, l7, q7⟩ := M_bounded (d := d + 2) hL T5 hB (a := 0) (b := 10) (by decide) (by decide) (by rw [e5]; exact m4.pt (by decide))
  obtain ⟨I8, e8⟩ : ∃ I8 : zI, I8 = zu I7 440 y (nI v6) := ⟨_, rfl⟩
  have T8 : zTM I8 J K P V X := by rw [e8]; exact (T5.f4 f7).pt (by decide)
  obtain ⟨I9, a9, m9, f9⟩ := M_mustC (d := d + 2) hL T8 hB (k := 59) (by rw [e8]; exact m7.pt (by decide)) (by decide) (by decide)
  have k5 : ∀ k, I5 420 k = I4 420 k := fun k => by rw [e5, zu_ne (by decide)]
  have k8 : ∀ k, I8 420 k = I7 420 k := fun k => by rw [e8, zu_ne (by decide)]
  have fld : ∀ k, k ≠ 11 → k ≠ 13 → k ≠ 14 → k ≠ 15 → k ≠ 16 → I9 420 k = I 420 k := fun k p1 p2 p3 p4 p5 => by
    have n3 : k ∉ [11, 13, 14] := by simp; omega
    have n5 : k ∉ [11, 13, 14, 15, 16] := by simp; omega
    rw [f9.2 k n3, k8, f7.2 k n5, k5, f4.2 k n5, f1.2 k n3]
  have row : ∀ a, a ≠ 420 → a ≠ 439 → a ≠ 440 → I9 a = I a := fun a p1 p2 p3 => by rw [f9.1 a p1, e8, zu_ne p3, f7.1 a p1, e5, zu_ne p2, f4.1 a p1, f1.1 a p1]
  have F9 : zfS s I I9 := by
    refine ((f1.S (by decide)).tr (f4.S (by decide))).tr ((?_ : zfS s I4 I5).tr ((f7.S (by decide)).tr ((?_ : zfS s I7 I8).tr (f9.S (by decide)))))
    · rw [e5]; exact zfS.put (n := 6) (by decide) (by decide) (by decide) (by omega) (by omega)
    · rw [e8]; exact zfS.put (n := 6) (by decide) (by decide) (by decide) (by omega) (by omega)
  have tp : ∀ I', (¬ I9 420 13 = 0 → I' = I9) → (I9 420 13 = 0 → I' = zu I9 438 s (nI (τ 0 4 + 1))) → zE (d + 5) kX12_tellPillar 0 [some (.ref 420), none] [] Z I1 J (none, Z, I', J) := fun I' h1 h2 =>
    BX12_tellPillar_0 hL ⟨by rw [x19]; exact zvin hs (by decide), fun y1 ey1 => ⟨nI v3, I4, a4, by rw [ey1, eix]; exact zvin (by omega) (by decide), fun y4 ey4 => ⟨nI v6, I7, by rw [ey4, ey1, eix, zclm (by omega), ← e5]; exact a7, by rw [ey1, eix]; exact zvin (by omega) (by decide), fun y7 ey7 => ⟨I9, by rw [ey7, ey1, eix, zclm (by omega), ← e8]; exact a9, fun q => by rw [h1 q], fun q => by
      have w19 : I9 420 19 = nI s := by rw [fld 19 (by decide) (by decide) (by decide) (by decide) (by decide)]; exact h19
      have w438 : I9 438 s = nI (τ 0 4) := by rw [row 438 (by decide) (by decide) (by decide)]; exact g6
      exact ⟨by rw [w19]; exact zvin hs (by decide), by rw [w19]; exact zvin hs (by decide), fun y9 ey9 => by rw [ey9, w19, zclm (by omega), w438, zadd1, ← h2 q]⟩⟩⟩⟩⟩
  obtain ⟨R, eR⟩ : ∃ R : zRt, R = ztk K 59 (ztk K 3 (ztk K 3 (zgn t0))) := ⟨_, rfl⟩
  have e7 : zsemi K (zpPillar K V t0 wo τ Λ N cn C) = (R, zwob V 0 10 (ztk K 3 (zgn t0)) (zwob V 0 10 (zgn t0) wo), zu (zu (zu τ 7 (τ 0 4) (V (t0 + 1))) 8 (τ 0 4) (V (t0 + 2))) 0 4 (τ 0 4 + 1), Λ, N, cn, C) := by
    rw [eR]
    show (ztk K 59 (if τ 0 4 = 6 then .error (2, t0) else ztk K 3 (ztk K 3 (zgn t0))), _) = _
    rw [if_neg c6]; rfl
  rw [e7]
  rw [← er, ← eR] at m9
  have z13 : I1 420 13 = 0 := m1k.1.2.1
  have x19' : I9 420 19 = nI s := by rw [fld 19 (by decide) (by decide) (by decide) (by decide) (by decide)]; exact h19
  have hD9 : zDr I9 := hD.row (row 432 (by decide) (by decide) (by decide)) (row 433 (by decide) (by decide) (by decide))
  have hbr9 : ∃ br, br ≤ 130 ∧ I9 420 41 = nI (130 * s + br) := by rw [fld 41 (by decide) (by decide) (by decide) (by decide) (by decide)]; exact hbr
  cases hR : R with
  | error e =>
    rw [hR] at m9
    exact ⟨I9, st I9 (fun q => absurd z13 q) (fun _ => tp I9 (fun _ => rfl) (fun q => absurd q m9.1.e0.1)), F9, m9, ⟨x19', hD9, hbr9⟩, fun t' q => absurd q (by simp)⟩
  | ok t' =>
    rw [hR] at m9
    rw [eR] at hR
    obtain ⟨t3, w3, -, -, x3⟩ := ztk_ok hR
    obtain ⟨t2, w2, y2, -, x2⟩ := ztk_ok w3
    obtain ⟨t1, w1, y1, -, x1⟩ := ztk_ok w2
    have x0 := (zgn_ok w1).2
    have e3 : v3 = V (t0 + 1) := by rw [q4 t1 (by rw [← er]; exact w1) y1, x0]
    have e6 : v6 = V (t0 + 2) := by rw [q7 t2 (by rw [← er]; exact w2) y2, x1, x0]
    have z9 : I9 420 13 = 0 := m9.1.2.1
    obtain ⟨I', eI⟩ : ∃ I' : zI, I' = zu I9 438 s (nI (τ 0 4 + 1)) := ⟨_, rfl⟩
    have r' : ∀ a, a ≠ 438 → I' a = I9 a := fun a p => by rw [eI, zu_ne p]
    refine ⟨I', st I' (fun q => absurd z13 q) (fun _ => tp I' (fun q => absurd z9 q) (fun _ => eI)), F9.tr (by rw [eI]; exact zfS.put (n := 1) (by decide) (by decide) (by decide) (by omega) (by omega)), by rw [eI]; exact m9.pt (by decide), ⟨by rw [r' 420 (by decide)]; exact x19', hD9.row (r' 432 (by decide)) (r' 433 (by decide)), by rw [r' 420 (by decide)]; exact hbr9⟩, fun t'' q => ?_⟩
    cases q
    obtain ⟨τ1, eτ⟩ : ∃ τ1 : Nat → Nat → Nat, τ1 = zu (zu (zu τ 7 (τ 0 4) (V (t0 + 1))) 8 (τ 0 4) (V (t0 + 2))) 0 4 (τ 0 4 + 1) := ⟨_, rfl⟩
    have z1 : τ1 0 4 = τ 0 4 + 1 := by rw [eτ, zu_eq]
    have z3 : ∀ k, k ≠ 4 → τ1 0 k = τ 0 k := fun k p => by rw [eτ, zu_k p, zu_ne (by decide), zu_ne (by decide)]
    have z4 : ∀ b, b ≠ 0 → b ≠ 7 → b ≠ 8 → τ1 b = τ b := fun b p q r => by rw [eτ, zu_ne p, zu_ne r, zu_ne q]
    show zMo I' J s K W X t' (zu (zu (zu τ 7 (τ 0 4) (V (t0 + 1))) 8 (τ 0 4) (V (t0 + 2))) 0 4 (τ 0 4 + 1)) Λ N cn C
    rw [← eτ]
    have R1 : ∀ a, a ≠ 420 → a ≠ 439 → a ≠ 440 → a ≠ 438 → I' a = I a := fun a p1 p2 p3 p4 => (r' a p4).trans (row a p1 p2 p3)
    have K1 : ∀ k, k ≠ 11 → k ≠ 13 → k ≠ 14 → k ≠ 15 → k ≠ 16 → I' 420 k = I 420 k := fun k p1 p2 p3 p4 p5 => by rw [r' 420 (by decide)]; exact fld k p1 p2 p3 p4 p5
    refine ⟨br, cd, ⟨by omega, by omega, by rw [K1 41 (by decide) (by decide) (by decide) (by decide) (by decide)]; exact b3, by rw [K1 47 (by decide) (by decide) (by decide) (by decide) (by decide)]; exact b4, by rw [K1 12 (by decide) (by decide) (by decide) (by decide) (by decide)]; exact b5⟩, ?_, ?_, ?_⟩
    · unfold zMX
      rw [z1, z3 0 (by decide), z3 1 (by decide), z3 2 (by decide), z3 3 (by decide), z4 1 (by decide) (by decide) (by decide), z4 2 (by decide) (by decide) (by decide), z4 3 (by decide) (by decide) (by decide), z4 4 (by decide) (by decide) (by decide), z4 5 (by decide) (by decide) (by decide), z4 6 (by decide) (by decide) (by decide), R1 429 (by decide) (by decide) (by decide) (by decide), R1 430 (by decide) (by decide) (by decide) (by decide), R1 431 (by decide) (by decide) (by decide) (by decide), R1 441 (by decide) (by decide) (by decide) (by decide), R1 432 (by decide) (by decide) (by decide) (by decide), R1 433 (by decide) (by decide) (by decide) (by decide), R1 434 (by decide) (by decide) (by decide) (by decide), R1 435 (by decide) (by decide) (by decide) (by decide), R1 436 (by decide) (by decide) (by decide) (by decide), R1 437 (by decide) (by decide) (by decide) (by decide)]
      refine ⟨⟨g1.1, by omega, g1.2.2⟩, ⟨g2, g3, g4, g5, by rw [eI, zu_eq]⟩, g7, g8, g9, fun i hi => ?_, fun p hp => (g11 p hp).rows (fun a p q => R1 a (by omega) (by omega) (by omega) (by omega))⟩
      have h439y : I' 439 y = nI v3 := by rw [r' 439 (by decide), f9.1 439 (by decide), e8, zu_ne (by decide), f7.1 439 (by decide), e5, zu_eq]
      have h440y : I' 440 y = nI v6 := by rw [r' 440 (by decide), f9.1 440 (by decide), e8, zu_eq]
      have h439n : ∀ j, j ≠ y → I' 439 j = I 439 j := fun j hj => by rw [r' 439 (by decide), f9.1 439 (by decide), e8, zu_ne (by decide), f7.1 439 (by decide), e5, zu_k hj, f4.1 439 (by decide), f1.1 439 (by decide)]
      have h440n : ∀ j, j ≠ y → I' 440 j = I 440 j := fun j hj => by rw [r' 440 (by decide), f9.1 440 (by decide), e8, zu_k hj, f7.1 440 (by decide), e5, zu_ne (by decide), f4.1 440 (by decide), f1.1 440 (by decide)]
      have t7y : τ1 7 (τ 0 4) = V (t0 + 1) := by rw [eτ, zu_ne (by decide), zu_ne (by decide), zu_eq]
      have t8y : τ1 8 (τ 0 4) = V (t0 + 2) := by rw [eτ, zu_ne (by decide), zu_eq]
      have t7n : ∀ j, j ≠ τ 0 4 → τ1 7 j = τ 7 j := fun j hj => by rw [eτ, zu_ne (by decide), zu_ne (by decide), zu_k hj]
      have t8n : ∀ j, j ≠ τ 0 4 → τ1 8 j = τ 8 j := fun j hj => by rw [eτ, zu_ne (by decide), zu_k hj, zu_ne (by decide)]
      by_cases e : i = τ 0 4
      · rw [e, ← ey, h439y, h440y, t7y, t8y, e3, e6]; exact ⟨rfl, rfl⟩
      · rw [h439n _ (by omega), h440n _ (by omega), t7n _ e, t8n _ e]; exact g10 i (by omega)
    · rw [z3 0 (by decide)]; exact hN.same (K1 20 (by decide) (by decide) (by decide) (by decide) (by decide)) rfl
    · exact hCn.same (K1 35 (by decide) (by decide) (by decide) (by decide) (by decide)) (fun a p q => R1 a (by omega) (by omega) (by omega) (by omega)) (by omega) (z3 0 (by decide)) (fun k _ => by rw [z4 4 (by decide) (by decide) (by decide)])
end
