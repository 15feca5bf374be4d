/-! the reference's reader: MAN -/
section
variable {d : Nat} {Z : zZ} {I I' : zI} {J J' : zJ} {t u s t0 T T' cn br cd : Nat} {K P V W X N : Nat → Nat} {τ τ' : Nat → Nat → Nat} {Λ Λ' : Nat → Option zLaw} {C : Nat → Nat × Nat × Nat} {wo : Option (Nat × Nat)} {r : zRt}
theorem M_notesCorner (hL : zLY Z t u) {x1 x2 x3 : Int32} (h : I 420 35 = nI cn) (hc : cn < 49) : zE d kX12_notesCorner 0 [some (.ref 420), some (.int x1), some (.int x2), some (.int x3)] [] Z I J (none, Z, zu (zu (zu (zu I 442 cn x2) 443 cn x3) 444 cn x1) 420 35 (nI (cn + 1)), J) := by
  refine BX12_notesCorner_0 _ _ _ hL ⟨by rw [h]; exact zvin hc (by decide), fun I1 e1 => ?_⟩
  have h1 : I1 420 35 = nI cn := by rw [e1, zu_ne (by decide)]; exact h
  refine ⟨by rw [h1]; exact zvin hc (by decide), fun I2 e2 => ?_⟩
  have h2 : I2 420 35 = nI cn := by rw [e2, zu_ne (by decide)]; exact h1
  refine ⟨by rw [h2]; exact zvin hc (by decide), fun I3 e3 I4 e4 => ?_⟩
  have h3 : I3 420 35 = nI cn := by rw [e3, zu_ne (by decide)]; exact h2
  rw [e4, h3, zadd1, e3, h2, zclm (by omega), e2, h1, zclm (by omega), e1, h, zclm (by omega)]
/-- the NAME of a new man -/
theorem M_newName (hL : zLY Z t u) (hT : zTM I J K P V X) (hB : zMB K P V W X) (h : zMc I K P (.ok t0) wo) {n : Nat} (hN : zMnm I J K W X n N) (y1 : Int32) : ∃ I4, (∀ o, zE (d + 3) kX12_tellMan 49 [some (.ref 420), some (.int y1), some (.int (nI t0)), none] [] Z I4 J o → vp_in (I 420 19) 2 → y1 = (((7 : Int32) * (I 420 19)) + (I 431 (I 420 19).toNatClampNeg)) → zE (d + 3) kX12_tellMan 0 [some (.ref 420), none, none, none] [] Z I J o) ∧ zMc I4 K P (ztk K 2 (.ok t0)) (zwom W N n 3 false (.ok t0) wo) ∧ zf4 [11, 13, 14, 15, 16] I I4 := by
  obtain ⟨I2, a2, m2, f2⟩ := M_mustC (d := d) hL hT hB h (k := 2) (by decide) (by decide)
  obtain ⟨⟨p1, p2⟩, p3, p4⟩ := h.1
  have st : ∀ o, vp_in (I 420 19) 2 → (∀ y : Int32, y = (((7 : Int32) * (I 420 19)) + (I 431 (I 420 19).toNatClampNeg)) → _) → zE (d + 3) kX12_tellMan 0 [some (.ref 420), none, none, none] [] Z I J o := fun o h1 h2 => BX12_tellMan_0 hL ⟨h1, fun y ey => ⟨I2, a2, h2 y ey⟩⟩
  cases hr : ztk K 2 (.ok t0) with
  | error e =>
    rw [hr] at m2
    refine ⟨I2, fun o ho h1 h2 => st o h1 (fun y ey => ⟨fun _ => by rw [ey, ← h2, p4]; exact ho, fun q => absurd q m2.1.e0.1⟩), zMc.err m2.1, f2.mono (by decide)⟩
  | ok t1 =>
    rw [hr] at m2
    obtain ⟨t0', e0, e2, e4, e5⟩ := ztk_ok hr
    have e00 : t0' = t0 := by cases e0; rfl
    rw [e00] at e2 e5
    have hm := M_manAt (d := d + 2) hL (hT.f4 f2) hB (hN.f4 f2 (by decide)) (i := t0) (by omega) p2
    rw [if_pos e2, ← p4] at hm
    have hw := h.2 t0 rfl
    have hw1 := hw.f4 f2 (by decide) (by decide)
    obtain ⟨o', eo⟩ : ∃ o', o' = zfnd N (W t0) n 0 := ⟨_, rfl⟩
    have ew : zwom W N n 3 false (.ok t0) wo = zwq wo (o'.isNone == false) (3, t0) := by rw [eo]; rfl
    rw [ew]
    rw [← eo] at hm
    have z0 : I2 420 13 = 0 := m2.1.2.1
    cases o' with
    | none =>
      exact ⟨I2, fun o ho h1 h2 => st o h1 (fun y ey => ⟨fun q => absurd z0 q, fun _ => ⟨_, hm, fun _ => by rw [ey, ← h2, p4]; exact ho, fun q => absurd (by decide) q⟩⟩), ⟨m2.1, fun t2 q => by cases q; exact (hw1.mono (by omega)).ok (zwq_ff rfl).symm⟩, f2.mono (by decide)⟩
    | some m =>
      have hm7 : m < 7 := by have := (zfnd_lt _ _ _ eo.symm).2.1; have := hN.1.1; omega
      obtain ⟨I3, b1, b2, b3, b4⟩ := M_later (d := d + 2) hL (hT.f4 f2) hB m2.1 (k := 3) (by decide) p1 p2 hw1 rfl
      exact ⟨I3, fun o ho h1 h2 => st o h1 (fun y ey => ⟨fun q => absurd z0 q, fun _ => ⟨_, hm, fun q => absurd q (zneg (by omega)), fun _ => ⟨I3, by rw [p4]; exact b1, by rw [ey, ← h2, p4]; exact ho⟩⟩⟩), ⟨b2, fun t2 q => by cases q; exact ((b3 trivial).mono (by omega)).ok (zwq_tt rfl)⟩, (f2.mono (by decide)).tr (b4.mono (by decide))⟩
theorem zsum_man {f g : Nat → Nat} {n : Nat} (h : ∀ j, j < n → g j = f j) (h0 : g n = 0) : zsum g 0 (n + 1) = zsum f 0 n := by
  rw [zsum_last, zsum_congr (g := f) (fun j _ hj => h j (by omega)), Nat.zero_add, h0, Nat.add_zero]
theorem M_man (hL : zLY Z t u) (hs : s < 2) (hT : zTM I J K P V X) (hB : zMB K P V W X) (hG : zGl τ Λ) (h : zMS I J s K P W X (.ok t0, wo, τ, Λ, N, cn, C)) (hk : K t0 = 129) : ∃ I' J', zE (d + 6) kX12_tell0 0 [some (.ref 420), none, none] [] Z I J (none, Z, I', J') ∧ (zfS s I I' ∧ ∀ a, a ≠ 428 → J' a = J a) ∧ zMS I' J' s K P W X (zsemi K (zpMan K V W t0 wo τ Λ N cn C)) := by
  obtain ⟨hC, ⟨h19, hD, hbr⟩, hO⟩ := h
  have hO0 : zMo I J s K W X t0 τ Λ N cn C := hO t0 rfl
  obtain ⟨br, cd, ⟨b1, b2, b3, b4, b5⟩, ⟨g1, ⟨g2, g3, g4, g5, g6⟩, g7, g8, g9, g10, g11⟩, hN, hCn⟩ := hO0
  obtain ⟨hv, ex⟩ := M_kind hT hC.1
  rw [hk] at ex
  obtain ⟨n, en⟩ : ∃ n, n = τ 0 0 := ⟨_, rfl⟩
  have h7 : n ≤ 7 := by rw [en]; exact g1.1
  obtain ⟨I1, a1, m1, f1⟩ := M_roomFor (d := d + 3) hL hT hC (by rw [hk]; decide) (k := τ 0 0) (m := 7) (by omega) (by decide)
  have a1' : zE (d + 5) kX12_roomFor 0 [some (.ref 420), some (.int (I 431 (I 420 19).toNatClampNeg)), some (.int 7)] [] Z I J (none, Z, I1, J) := by rw [h19, zclm (by omega), g2]; exact a1
  have st : ∀ I8 J8, (¬ I1 420 13 = 0 → I8 = I1 ∧ J8 = J) → (I1 420 13 = 0 → zE (d + 5) kX12_tellMan 0 [some (.ref 420), none, none, none] [] Z I1 J (none, Z, I8, J8)) → zE (d + 6) kX12_tell0 0 [some (.ref 420), none, none] [] Z I J (none, Z, I8, J8) := fun I8 J8 h1 h2 =>
    BX12_tell0_0 hL ⟨hv, fun q => absurd q (by rw [ex]; decide), fun q => absurd (ex.symm.trans q) (by decide), fun _ => ⟨by rw [h19]; exact zvin hs (by decide), I1, a1', fun q => by rw [(h1 q).1, (h1 q).2], fun q => ⟨I8, J8, h2 q, rfl⟩⟩, fun q => absurd (ex.symm.trans q) (by decide), fun q => absurd (ex.symm.trans q) (by decide), fun q => absurd (ex.symm.trans q) (by decide), fun q => absurd (ex.symm.trans q) (by decide), fun q => absurd (ex.symm.trans q) (by decide), fun q => absurd (ex.symm.trans q) (by decide)⟩
  have k1 : ∀ k, k ≠ 11 → k ≠ 13 → k ≠ 14 → I1 420 k = I 420 k := fun k p1 p2 p3 => f1.2 k (by simp; omega)
  have err : ∀ e, zMc I1 K P (.error e) wo → (zsemi K (zpMan K V W t0 wo τ Λ N cn C)).1 = .error e → ∃ I' J', zE (d + 6) kX12_tell0 0 [some (.ref 420), none, none] [] Z I J (none, Z, I', J') ∧ (zfS s I I' ∧ ∀ a, a ≠ 428 → J' a = J a) ∧ zMS I' J' s K P W X (zsemi K (zpMan K V W t0 wo τ Λ N cn C)) := by
    intro e he hq
    refine ⟨I1, J, st I1 J (fun _ => ⟨rfl, rfl⟩) (fun q => absurd q he.1.e0.1), ⟨f1.S (by decide), fun _ _ => rfl⟩, ?_, ⟨by rw [k1 19 (by decide) (by decide) (by decide)]; exact h19, hD.row (f1.1 432 (by decide)) (f1.1 433 (by decide)), by rw [k1 41 (by decide) (by decide) (by decide)]; exact hbr⟩, fun t' q => by rw [hq] at q; exact absurd q (by simp)⟩
    rw [hq]; exact zMc.err he.1
  have eman : ∀ r0 : zRt, r0 = (if τ 0 0 = 7 then .error (2, t0) else zgn t0) → (zsemi K (zpMan K V W t0 wo τ Λ N cn C)).1 = ztk K 59 (ztk K 3 (ztk K 3 (ztk K 2 r0))) := fun r0 e => by rw [e]; rfl
  by_cases c6 : τ 0 0 = 7
  · rw [if_pos c6] at m1
    exact err _ m1 (eman _ (if_pos c6).symm)
  rw [if_neg c6] at m1
  by_cases c400 : t0 = 400
  · have er : zgn t0 = .error (2, t0) := by unfold zgn; rw [if_pos c400]
    rw [er] at m1
    exact err _ m1 (eman (.error (2, t0)) (by rw [if_neg c6, er]))
  have er : zgn t0 = .ok (t0 + 1) := by unfold zgn; rw [if_neg c400]
  rw [er] at m1
  have T1 := hT.f4 f1
  have x19 : I1 420 19 = nI s := by rw [k1 19 (by decide) (by decide) (by decide)]; exact h19
  have x431 : I1 431 s = nI n := by rw [f1.1 431 (by decide), en]; exact g2
  obtain ⟨y, ey⟩ : ∃ y, y = 7 * s + n := ⟨_, rfl⟩
  have eix : nI y = (7 : Int32) * I1 420 19 + I1 431 (I1 420 19).toNatClampNeg := by rw [x19, zclm (by omega), x431, show (7 : Int32) = nI 7 from rfl, zmul, zadd, ey]
  have hy : y < 14 := by omega
  obtain ⟨I2, a2, m2, f2⟩ := M_newName (d := d + 2) hL T1 hB m1 (n := n) (by rw [en]; exact hN.f4 f1 (by decide)) (nI y)
  have T2 := T1.f4 f2
  obtain ⟨v3, I4, a4, m4, f4, l4, q4⟩ := M_bounded (d := d + 2) hL T2 hB (a := 0) (b := 11) (by decide) (by decide) m2
  obtain ⟨I5, e5⟩ : ∃ I5 : zI, I5 = zu I4 432 y (nI v3) := ⟨_, rfl⟩
  have T5 : zTM I5 J K P V X := by rw [e5]; exact (T2.f4 f4).pt (by decide)
  obtain ⟨v6, I7, a7, m7, f7, l7, q7⟩ := M_bounded (d := d + 2) hL T5 hB (a := 0) (b := 11) (by decide) (by decide) (by rw [e5]; exact m4.pt (by decide))
  obtain ⟨I8, e8⟩ : ∃ I8 : zI, I8 = zu I7 433 y (nI v6) := ⟨_, rfl⟩
  have T8 : zTM I8 J K P V X := by rw [e8]; exact (T5.f4 f7).pt (by decide)
  obtain ⟨I9, a9, m9, f9⟩ := M_mustC (d := d + 2) hL T8 hB (k := 59) (by rw [e8]; exact m7.pt (by decide)) (by decide) (by decide)
  have k5 : ∀ k, I5 420 k = I4 420 k := fun k => by rw [e5, zu_ne (by decide)]
  have k8 : ∀ k, I8 420 k = I7 420 k := fun k => by rw [e8, zu_ne (by decide)]
  have fld : ∀ k, k ≠ 11 → k ≠ 13 → k ≠ 14 → k ≠ 15 → k ≠ 16 → I9 420 k = I 420 k := fun k p1 p2 p3 p4 p5 => by
    have n3 : k ∉ [11, 13, 14] := by simp; omega
    have n5 : k ∉ [11, 13, 14, 15, 16] := by simp; omega
    rw [f9.2 k n3, k8, f7.2 k n5, k5, f4.2 k n5, f2.2 k n5, f1.2 k n3]
  have row : ∀ a, a ≠ 420 → a ≠ 432 → a ≠ 433 → I9 a = I a := fun a p1 p2 p3 => by rw [f9.1 a p1, e8, zu_ne p3, f7.1 a p1, e5, zu_ne p2, f4.1 a p1, f2.1 a p1, f1.1 a p1]
  have F9 : zfS s I I9 := by
    refine ((f1.S (by decide)).tr ((f2.S (by decide)).tr (f4.S (by decide)))).tr ((?_ : zfS s I4 I5).tr ((f7.S (by decide)).tr ((?_ : zfS s I7 I8).tr (f9.S (by decide)))))
    · rw [e5]; exact zfS.put (n := 7) (by decide) (by decide) (by decide) (by omega) (by omega)
    · rw [e8]; exact zfS.put (n := 7) (by decide) (by decide) (by decide) (by omega) (by omega)
  have h432y : I9 432 y = nI v3 := by rw [f9.1 432 (by decide), e8, zu_ne (by decide), f7.1 432 (by decide), e5, zu_eq]
  have h433y : I9 433 y = nI v6 := by rw [f9.1 433 (by decide), e8, zu_eq]
  have h432n : ∀ j, j ≠ y → I9 432 j = I 432 j := fun j hj => by rw [f9.1 432 (by decide), e8, zu_ne (by decide), f7.1 432 (by decide), e5, zu_k hj, f4.1 432 (by decide), f2.1 432 (by decide), f1.1 432 (by decide)]
  have h433n : ∀ j, j ≠ y → I9 433 j = I 433 j := fun j hj => by rw [f9.1 433 (by decide), e8, zu_k hj, f7.1 433 (by decide), e5, zu_ne (by decide), f4.1 433 (by decide), f2.1 433 (by decide), f1.1 433 (by decide)]
  have hD9 : zDr I9 := by
    have d4 : zDr I4 := hD.row (by rw [f4.1 432 (by decide), f2.1 432 (by decide), f1.1 432 (by decide)]) (by rw [f4.1 433 (by decide), f2.1 433 (by decide), f1.1 433 (by decide)])
    have d5 : zDr I5 := by rw [e5]; exact d4.pt (Or.inl rfl) l4
    have d7 : zDr I7 := d5.row (f7.1 432 (by decide)) (f7.1 433 (by decide))
    have d8 : zDr I8 := by rw [e8]; exact d7.pt (Or.inr rfl) l7
    exact d8.row (f9.1 432 (by decide)) (f9.1 433 (by decide))
  have x19' : I9 420 19 = nI s := by rw [fld 19 (by decide) (by decide) (by decide) (by decide) (by decide)]; exact h19
  have hbr9 : ∃ br, br ≤ 130 ∧ I9 420 41 = nI (130 * s + br) := by rw [fld 41 (by decide) (by decide) (by decide) (by decide) (by decide)]; exact hbr
  have z13 : I1 420 13 = 0 := m1.1.2.1
  obtain ⟨R, eR⟩ : ∃ R : zRt, R = ztk K 59 (ztk K 3 (ztk K 3 (ztk K 2 (.ok (t0 + 1))))) := ⟨_, rfl⟩
  obtain ⟨τ1, eτ⟩ : ∃ τ1 : Nat → Nat → Nat, τ1 = zu (zu (zu (zu (zu τ 1 n (V (t0 + 2))) 2 n (V (t0 + 3))) 3 n 0) 4 n 0) 0 0 (n + 1) := ⟨_, rfl⟩
  obtain ⟨C1, eC⟩ : ∃ C1 : Nat → Nat × Nat × Nat, C1 = fun i => if i = cn then (V (t0 + 2), V (t0 + 3), t0 + 2) else C i := ⟨_, rfl⟩
  obtain ⟨wo1, ewo⟩ : ∃ wo1, wo1 = zwob V 0 11 (ztk K 3 (ztk K 2 (.ok (t0 + 1)))) (zwob V 0 11 (ztk K 2 (.ok (t0 + 1))) (zwom W N n 3 false (.ok (t0 + 1)) wo)) := ⟨_, rfl⟩
  have e7 : zsemi K (zpMan K V W t0 wo τ Λ N cn C) = (R, wo1, τ1, (fun p => if p = n then none else Λ p), (fun m => if m = n then W (t0 + 1) else N m), cn + 1, C1) := by
    have er0 : (if τ 0 0 = 7 then Except.error (2, t0) else zgn t0) = (.ok (t0 + 1) : zRt) := by rw [if_neg c6, er]
    unfold zsemi zpMan
    dsimp only
    rw [er0, eR, ewo, eτ, eC, en]
  rw [e7]
  rw [← eR, ← ewo] at m9
  -- after the last sign
  have go : ∀ I' J', (¬ I9 420 13 ≤ 0 → I' = I9 ∧ J' = J) → (I9 420 13 ≤ 0 → ∃ I10, I10 = zu (zu (zu (zu I9 442 cn (nI v3)) 443 cn (nI v6)) 444 cn (I2 420 11)) 420 35 (nI (cn + 1)) ∧ cn < 49 ∧ J' = zu J 428 n (J 426 (t0 + 1)) ∧ I' = zu (zu I10 420 20 (nI (n + 1))) 431 s (nI (n + 1))) → zE (d + 6) kX12_tell0 0 [some (.ref 420), none, none] [] Z I J (none, Z, I', J') := by
    intro I' J' h1 h2
    refine st I' J' (fun q => absurd z13 q) (fun _ => a2 _ (BX12_tellMan_49 _ _ hL ⟨nI v3, I4, a4, zvin hy (by decide), fun y5 ey5 => ⟨nI v6, I7, by rw [ey5, zclm (by omega), ← e5]; exact a7, zvin hy (by decide), fun y8 ey8 => ⟨I9, by rw [ey8, zclm (by omega), ← e8]; exact a9, fun q => ?_, fun q => by rw [(h1 q).1, (h1 q).2]⟩⟩⟩) (by rw [x19]; exact zvin hs (by decide)) eix)
    obtain ⟨I10, e10, hc49, eJ, eI⟩ := h2 q
    have w35 : I9 420 35 = nI cn := by rw [fld 35 (by decide) (by decide) (by decide) (by decide) (by decide)]; exact hCn.1.1
    have w20 : I10 420 20 = nI n := by rw [e10, zu_k (by decide), zu_ne (by decide), zu_ne (by decide), zu_ne (by decide), fld 20 (by decide) (by decide) (by decide) (by decide) (by decide), en]; exact hN.1.2
    have w19 : I10 420 19 = nI s := by rw [e10, zu_k (by decide), zu_ne (by decide), zu_ne (by decide), zu_ne (by decide)]; exact x19'
    have w431 : I10 431 s = nI n := by rw [e10, zu_ne (by decide), zu_ne (by decide), zu_ne (by decide), zu_ne (by decide), row 431 (by decide) (by decide) (by decide), en]; exact g2
    have nc := M_notesCorner (d := d + 4) (J := J) hL (x1 := I2 420 11) (x2 := nI v3) (x3 := nI v6) w35 hc49
    rw [← e10] at nc
    refine ⟨zvin hy (by decide), zvin hy (by decide), I10, by rw [zclm (by omega), h432y, h433y]; exact nc, zvin (by have := hC.1.1.1; omega) (by decide), by rw [w20]; exact zvin (by omega) (by decide), fun y9 ey9 y10 ey10 => ?_⟩
    have e10' : y10 = zu I10 420 20 (nI (n + 1)) := by rw [ey10, w20, zadd1]
    have v19 : y10 420 19 = nI s := by rw [e10', zu_k (by decide)]; exact w19
    have v431 : y10 431 s = nI n := by rw [e10', zu_ne (by decide)]; exact w431
    refine ⟨by rw [v19]; exact zvin hs (by decide), by rw [v19]; exact zvin hs (by decide), fun y11 ey11 => ?_⟩
    rw [ey11, v19, zclm (by omega), v431, zadd1, e10', ← eI, ey9, w20, zclm (by omega), zclm (by have := hC.1.1.1; omega), ← eJ]
  cases hR : R with
  | error e =>
    rw [hR] at m9
    exact ⟨I9, J, go I9 J (fun _ => ⟨rfl, rfl⟩) (fun q => absurd q m9.1.e0.2.1), ⟨F9, fun _ _ => rfl⟩, m9, ⟨x19', hD9, hbr9⟩, fun t' q => absurd q (by simp)⟩
  | ok t' =>
    rw [hR] at m9
    rw [eR] at hR
    obtain ⟨t4, w4, -, -, x4⟩ := ztk_ok hR
    obtain ⟨t3, w3, y3, -, x3⟩ := ztk_ok w4
    obtain ⟨t2, w2, y2, -, x2⟩ := ztk_ok w3
    obtain ⟨t1, w1, y1, -, x1⟩ := ztk_ok w2
    have x0 : t1 = t0 + 1 := by cases w1; rfl
    have e3 : v3 = V (t0 + 2) := by rw [q4 t2 w2 y2, x1, x0]
    have e6 : v6 = V (t0 + 3) := by rw [q7 t3 w3 y3, x2, x1, x0]
    have l3 : V (t0 + 2) ≤ 9999 := by rw [← e3]; exact l4
    have l6 : V (t0 + 3) ≤ 9999 := by rw [← e6]; exact l7
    have z9 : I9 420 13 = 0 := m9.1.2.1
    have i2 : I2 420 11 = nI (t0 + 2) := by
      have := m2.1
      rw [w2] at this
      rw [this.2.2, x1, x0]
    have hs6 : zsum (τ 4) 0 (τ 0 0) ≤ 6 * τ 0 0 := zsum_le (fun j _ hj => g1.2.2 j (by omega))
    have c49 : cn < 49 := by have := hCn.1.2; omega
    obtain ⟨I10, e10⟩ : ∃ I10 : zI, I10 = zu (zu (zu (zu I9 442 cn (nI v3)) 443 cn (nI v6)) 444 cn (I2 420 11)) 420 35 (nI (cn + 1)) := ⟨_, rfl⟩
    obtain ⟨I', eI⟩ : ∃ I' : zI, I' = zu (zu I10 420 20 (nI (n + 1))) 431 s (nI (n + 1)) := ⟨_, rfl⟩
    obtain ⟨J', eJ⟩ : ∃ J' : zJ, J' = zu J 428 n (J 426 (t0 + 1)) := ⟨_, rfl⟩
    have ra : ∀ a, a ≠ 420 → a ≠ 431 → ¬ (442 ≤ a ∧ a ≤ 444) → I' a = I9 a := fun a p1 p2 p3 => by rw [eI, zu_ne p2, zu_ne p1, e10, zu_ne p1, zu_ne (by omega), zu_ne (by omega), zu_ne (by omega)]
    have ka : ∀ k, k ≠ 20 → k ≠ 35 → I' 420 k = I9 420 k := fun k p1 p2 => by rw [eI, zu_ne (by decide), zu_k p1, e10, zu_k p2, zu_ne (by decide), zu_ne (by decide), zu_ne (by decide)]
    have m' : zMc I' K P (.ok t') wo1 := by
      have f : zf4 [20, 35] (zu (zu (zu I9 442 cn (nI v3)) 443 cn (nI v6)) 444 cn (I2 420 11)) (zu I10 420 20 (nI (n + 1))) := by rw [e10]; exact (zf4.put (by decide)).tr (zf4.put (by decide))
      have q1 : zMc (zu (zu (zu I9 442 cn (nI v3)) 443 cn (nI v6)) 444 cn (I2 420 11)) K P (.ok t') wo1 := ((m9.pt (by decide)).pt (by decide)).pt (by decide)
      have q2 : zMc (zu I10 420 20 (nI (n + 1))) K P (.ok t') wo1 := ⟨q1.1.f4 f (by decide) (by decide) (by decide), fun t5 q => (q1.2 t5 q).f4 f (by decide) (by decide)⟩
      rw [eI]; exact q2.pt (by decide)
    have FS : zfS s I9 I' := by
      rw [eI, e10]
      exact ((((zfS.putc (by decide) (by decide)).tr (zfS.putc (by decide) (by decide))).tr (zfS.putc (by decide) (by decide))).tr ((zf4.put (F := [35]) (by decide)).S (by decide))).tr (((zf4.put (F := [20]) (by decide)).S (by decide)).tr (zfS.put (n := 1) (by decide) (by decide) (by decide) (by omega) (by omega)))
    refine ⟨I', J', go I' J' (fun q => absurd (by rw [z9]; decide) q) (fun _ => ⟨I10, e10, c49, eJ, eI⟩), ⟨F9.tr FS, fun a p => by rw [eJ, zu_ne p]⟩, m', ⟨by rw [ka 19 (by decide) (by decide)]; exact x19', hD9.row (ra 432 (by decide) (by decide) (by decide)) (ra 433 (by decide) (by decide) (by decide)), by rw [ka 41 (by decide) (by decide)]; exact hbr9⟩, fun t'' q => ?_⟩
    cases q
    have x00 : τ1 0 0 = n + 1 := by rw [eτ, zu_eq]
    have xk : ∀ k, k ≠ 0 → τ1 0 k = τ 0 k := fun k p => by rw [eτ, zu_k p, zu_ne (by decide), zu_ne (by decide), zu_ne (by decide), zu_ne (by decide)]
    have x5 : ∀ b, 5 ≤ b → τ1 b = τ b := fun b p => by rw [eτ, zu_ne (by omega), zu_ne (by omega), zu_ne (by omega), zu_ne (by omega), zu_ne (by omega)]
    have y1' : τ1 1 n = V (t0 + 2) := by rw [eτ, zu_ne (by decide), zu_ne (by decide), zu_ne (by decide), zu_ne (by decide), zu_eq]
    have y2' : τ1 2 n = V (t0 + 3) := by rw [eτ, zu_ne (by decide), zu_ne (by decide), zu_ne (by decide), zu_eq]
    have y3' : τ1 3 n = 0 := by rw [eτ, zu_ne (by decide), zu_ne (by decide), zu_eq]
    have y4' : τ1 4 n = 0 := by rw [eτ, zu_ne (by decide), zu_eq]
    have w1' : ∀ k, k ≠ n → τ1 1 k = τ 1 k := fun k q => by rw [eτ, zu_ne (by decide), zu_ne (by decide), zu_ne (by decide), zu_ne (by decide), zu_k q]
    have w2' : ∀ k, k ≠ n → τ1 2 k = τ 2 k := fun k q => by rw [eτ, zu_ne (by decide), zu_ne (by decide), zu_ne (by decide), zu_k q, zu_ne (by decide)]
    have w3' : ∀ k, k ≠ n → τ1 3 k = τ 3 k := fun k q => by rw [eτ, zu_ne (by decide), zu_ne (by decide), zu_k q, zu_ne (by decide), zu_ne (by decide)]
    have w4' : ∀ k, k ≠ n → τ1 4 k = τ 4 k := fun k q => by rw [eτ, zu_ne (by decide), zu_k q, zu_ne (by decide), zu_ne (by decide), zu_ne (by decide)]
    have R1 : ∀ a, a ≠ 420 → a ≠ 431 → a ≠ 432 → a ≠ 433 → ¬ (442 ≤ a ∧ a ≤ 444) → I' a = I a := fun a p1 p2 p3 p4 p5 => (ra a p1 p2 p5).trans (row a p1 p3 p4)
    have K1 : ∀ k, k ≠ 11 → k ≠ 13 → k ≠ 14 → k ≠ 15 → k ≠ 16 → k ≠ 20 → k ≠ 35 → I' 420 k = I 420 k := fun k p1 p2 p3 p4 p5 p6 p7 => (ka k p6 p7).trans (fld k p1 p2 p3 p4 p5)
    refine ⟨br, cd, ⟨by omega, by omega, by rw [K1 41 (by decide) (by decide) (by decide) (by decide) (by decide) (by decide) (by decide)]; exact b3, by rw [K1 47 (by decide) (by decide) (by decide) (by decide) (by decide) (by decide) (by decide)]; exact b4, by rw [K1 12 (by decide) (by decide) (by decide) (by decide) (by decide) (by decide) (by decide)]; exact b5⟩, ?_, ?_, ?_⟩
    · show zMX I' s br cd τ1 (fun p => if p = n then none else Λ p)
      unfold zMX
      rw [x00, xk 1 (by decide), xk 2 (by decide), xk 3 (by decide), xk 4 (by decide), x5 5 (by decide), x5 6 (by decide), x5 7 (by decide), x5 8 (by decide), R1 429 (by decide) (by decide) (by decide) (by decide) (by decide), R1 430 (by decide) (by decide) (by decide) (by decide) (by decide), R1 441 (by decide) (by decide) (by decide) (by decide) (by decide), R1 438 (by decide) (by decide) (by decide) (by decide) (by decide), R1 434 (by decide) (by decide) (by decide) (by decide) (by decide), R1 435 (by decide) (by decide) (by decide) (by decide) (by decide), R1 436 (by decide) (by decide) (by decide) (by decide) (by decide), R1 437 (by decide) (by decide) (by decide) (by decide) (by decide), R1 439 (by decide) (by decide) (by decide) (by decide) (by decide), R1 440 (by decide) (by decide) (by decide) (by decide) (by decide), ra 432 (by decide) (by decide) (by decide), ra 433 (by decide) (by decide) (by decide)]
      refine ⟨⟨by omega, g1.2.1, fun m hm => ?_⟩, ⟨by rw [eI, zu_eq], g3, g4, g5, g6⟩, fun m hm => ?_, fun m q1 q2 => g8 m (by omega) q2, fun m i hm hi => ?_, g10, fun p hp => ?_⟩
      · by_cases e : m = n
        · rw [e, y4']; decide
        · rw [w4' m e]; exact g1.2.2 m (by omega)
      · by_cases e : m = n
        · rw [e, ← ey, h432y, h433y, y1', y2', y3', y4', e3, e6, ey]
          obtain ⟨z1, z2⟩ := g8 n (by omega) (by omega)
          exact ⟨rfl, rfl, z1, z2⟩
        · rw [h432n _ (by omega), h433n _ (by omega), w1' m e, w2' m e, w3' m e, w4' m e]
          exact g7 m (by omega)
      · by_cases e : m = n
        · rw [e, y4'] at hi; exact absurd hi (Nat.not_lt_zero _)
        · rw [w4' m e] at hi
          exact g9 m i (by omega) hi
      · have hq := (g11 p hp).rows (fun a p1 p2 => R1 a (by omega) (by omega) (by omega) (by omega) (by omega))
        dsimp only
        by_cases e : p = n
        · rw [if_pos e]
          have : Λ p = none := hG p (by omega) (by omega)
          rw [this] at hq
          exact hq
        · rw [if_neg e]; exact hq
    · show zMnm I' J' K W X (τ1 0 0) (fun m => if m = n then W (t0 + 1) else N m)
      rw [x00]
      refine ⟨⟨by omega, by rw [eI, zu_ne (by decide), zu_eq]⟩, fun m hm => ?_⟩
      dsimp only
      by_cases e : m = n
      · rw [if_pos e, eJ, e, zu_eq]
        have hg : ∀ j, j < t0 + 1 → K j ≠ 0 := m1.1.1.2
        have hq : t0 + 1 ≤ 400 := m1.1.1.1
        rw [← x0] at hg hq ⊢
        exact ⟨t1, y1, rfl, (hT t1 (by omega) hg).2.2 y1⟩
      · rw [if_neg e, eJ, zu_k e]
        obtain ⟨i, i1, i2, i3⟩ := hN.2 m (by omega)
        exact ⟨i, i1, i2, i3⟩
    · show zMcn I' t' τ1 (cn + 1) C1
      have c442 : I' 442 cn = nI v3 := by rw [eI, zu_ne (by decide), zu_ne (by decide), e10, zu_ne (by decide), zu_ne (by decide), zu_ne (by decide), zu_eq]
      have c443 : I' 443 cn = nI v6 := by rw [eI, zu_ne (by decide), zu_ne (by decide), e10, zu_ne (by decide), zu_ne (by decide), zu_eq]
      have c444 : I' 444 cn = nI (t0 + 2) := by rw [eI, zu_ne (by decide), zu_ne (by decide), e10, zu_ne (by decide), zu_eq]; exact i2
      have cne : ∀ a, 442 ≤ a → a ≤ 444 → ∀ j, j ≠ cn → I' a j = I a j := fun a p1 p2 j hj => by
        rw [eI, zu_ne (by omega), zu_ne (by omega), e10, zu_ne (by omega)]
        have : ∀ {A : zI} {b : Nat} {v : Int32}, (zu A b cn v) a j = A a j := fun {A b v} => by
          by_cases e : a = b
          · subst e; exact zu_k hj
          · rw [zu_ne e]
        rw [this, this, this, row a (by omega) (by omega) (by omega)]
      refine ⟨⟨by rw [eI, zu_ne (by decide), zu_k (by decide), e10, zu_eq], ?_⟩, fun i hi => ?_⟩
      · rw [x00, zsum_man (f := τ 4) (fun j hj => w4' j (by omega)) y4', en]
        have := hCn.1.2; omega
      · rw [eC]
        dsimp only
        by_cases e : i = cn
        · rw [if_pos e, e, c442, c443, c444, e3, e6]
          exact ⟨⟨l3, l6, by show t0 + 2 < t'; omega⟩, rfl, rfl, rfl⟩
        · rw [if_neg e, cne 442 (by decide) (by decide) i e, cne 443 (by decide) (by decide) i e, cne 444 (by decide) (by decide) i e]
          obtain ⟨⟨q1, q2, q3⟩, q4⟩ := hCn.2 i (by omega)
          exact ⟨⟨q1, q2, by omega⟩, q4⟩
end
