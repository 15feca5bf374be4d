/-! the class's reader: corners, MAN, ERRAND -/
section
variable {d : Nat} {Z : zZ} {I I' : zI} {J J' : zJ} {t u t0 sz T T' cn n : Nat} {K P V W N : Nat → Nat} {τ : Nat → Nat → Nat} {Λ : Nat → Option zLaw} {C : Nat → Nat × Nat × Nat} {wo wo' : Option (Nat × Nat)} {o : zO} {r : zRt}
theorem zpt_row {I : zI} {a n b : Nat} {x v : Int32} (h : b ≠ a) : zpt I a n x v b = I b := by funext k; exact zpt_a h
theorem C_corner (hL : zLY Z t u) (hT : zTC I J K P V W) (hB : zTB K V W) (h : zCl I K P r wo) :
    ∃ I', zE (d + 4) kX5_readCorner 0 [some (.ref 2), none] [] Z I J (some (.int (I 2 12)), Z, I', J) ∧ zCl I' K P (ztk K 3 (ztk K 3 r)) (zwob V 0 11 (ztk K 3 r) (zwob V 0 11 r wo)) ∧ (∀ a, a ≠ 2 → ¬ (26 ≤ a ∧ a ≤ 28) → I' a = I a) ∧ (∀ k, k ∉ [1, 3, 4, 5, 6, 7, 8, 12] → I' 2 k = I 2 k) ∧
      ∀ cc t0, I 2 12 = nI cc → cc < 400 → r = .ok t0 → zrok (ztk K 3 (ztk K 3 r)) → I' 2 12 = nI (cc + 1) ∧ (I' 26 cc = nI (P t0) ∧ I' 27 cc = nI (V t0) ∧ I' 28 cc = nI (V (t0 + 1))) ∧ ∀ j, j ≠ cc → I' 26 j = I 26 j ∧ I' 27 j = I 27 j ∧ I' 28 j = I 28 j := by
  obtain ⟨I1, e1⟩ : ∃ I1 : zI, I1 = zpt I 26 400 (I 2 12) (I 2 5) := ⟨_, rfl⟩
  have R1 : ∀ a, a ≠ 26 → I1 a = I a := fun a p => by rw [e1]; exact zpt_row p
  have T1 : zTC I1 J K P V W := hT.same (fun a p q => R1 a (by omega))
  obtain ⟨v2, I3, a2, b2, f2, g2⟩ := C_takeInt (d := d) (J := J) hL T1 hB (a := 0) (b := 11) (by decide) (by decide) (h.rw (R1 2 (by decide)))
  obtain ⟨I4, e4⟩ : ∃ I4 : zI, I4 = zpt I3 27 400 (I 2 12) v2 := ⟨_, rfl⟩
  have R4 : ∀ a, a ≠ 27 → I4 a = I3 a := fun a p => by rw [e4]; exact zpt_row p
  have T4 : zTC I4 J K P V W := (T1.f2 f2).same (fun a p q => R4 a (by omega))
  obtain ⟨v5, I6, a5, b5, f5, g5⟩ := C_takeInt (d := d) (J := J) hL T4 hB (a := 0) (b := 11) (by decide) (by decide) (b2.rw (R4 2 (by decide)))
  obtain ⟨I7, e7⟩ : ∃ I7 : zI, I7 = zpt I6 28 400 (I 2 12) v5 := ⟨_, rfl⟩
  have R7 : ∀ a, a ≠ 28 → I7 a = I6 a := fun a p => by rw [e7]; exact zpt_row p
  obtain ⟨I8, e8⟩ : ∃ I8 : zI, I8 = zu I7 2 12 ((I7 2 12) + 1) := ⟨_, rfl⟩
  have fld : ∀ k, k ∉ [1, 3, 4, 5, 6, 7, 8] → I7 2 k = I 2 k := fun k p => by rw [R7 2 (by decide), f5.2 k p, R4 2 (by decide), f2.2 k p, R1 2 (by decide)]
  have c7 : zCl I7 K P (ztk K 3 (ztk K 3 r)) (zwob V 0 11 (ztk K 3 r) (zwob V 0 11 r wo)) := b5.rw (R7 2 (by decide))
  have f8 : zf2 [12] I7 I8 := by rw [e8]; exact zf2.put (by decide)
  refine ⟨I8, BX5_readCorner_0 hL (fun J1 q1 => ⟨v2, I3, by rw [q1, ← e1]; exact a2, fun J4 q4 => ⟨v5, I6, by rw [q4, ← e4]; exact a5, fun J7 q7 J8 q8 => by rw [q8, q7, ← e7, ← e8]⟩⟩), ⟨c7.1.f2 f8 (fun k hk q => by simp at q; omega), fun q => (c7.2 q).f2 f8 (by decide) (by decide)⟩, fun a p q => by rw [e8, zu_ne p, R7 a (by omega), f5.1 a p, R4 a (by omega), f2.1 a p, R1 a (by omega)], fun k p => by rw [f8.2 k (fun q => p (by simp at q; subst q; decide)), fld k (fun q => p (by simp at q ⊢; omega))], fun cc t0 hcc h4 er hok => ?_⟩
  obtain ⟨t3, e3⟩ := zrok_ex hok
  obtain ⟨t2, e2, k2, -, q2⟩ := ztk_ok e3
  obtain ⟨t1, e1', k1, -, q1⟩ := ztk_ok e2
  rw [er] at e1'
  cases e1'
  have v2e := g2 t0 er k1
  have v5e := g5 t2 e2 k2
  have x12 : I7 2 12 = nI cc := by rw [fld 12 (by decide)]; exact hcc
  have s5 : I 2 5 = nI (P t0) := by subst er; exact h.1.2.2.2.2
  rw [hcc, zptI h4 (by decide)] at e1 e4 e7
  refine ⟨by rw [e8, zu_eq, x12, zadd1], ⟨?_, ?_, ?_⟩, fun j hj => ⟨?_, ?_, ?_⟩⟩
  · rw [e8, zu_ne (by decide), R7 26 (by decide), f5.1 26 (by decide), R4 26 (by decide), f2.1 26 (by decide), e1, zu_eq, s5]
  · rw [e8, zu_ne (by decide), R7 27 (by decide), f5.1 27 (by decide), e4, zu_eq, v2e]
  · rw [e8, zu_ne (by decide), e7, zu_eq, v5e, q1]
  · rw [e8, zu_ne (by decide), R7 26 (by decide), f5.1 26 (by decide), R4 26 (by decide), f2.1 26 (by decide), e1, zu_k hj]
  · rw [e8, zu_ne (by decide), R7 27 (by decide), f5.1 27 (by decide), e4, zu_k hj, f2.1 27 (by decide), R1 27 (by decide)]
  · rw [e8, zu_ne (by decide), e7, zu_k hj, f5.1 28 (by decide), R4 28 (by decide), f2.1 28 (by decide), R1 28 (by decide)]
/-- behind MAN: a NAME that must be new -/
theorem C_man21 (hL : zLY Z t u) (hu : u = 3 ∨ u = 30) (hT : zTC I J K P V W) (hB : zTB K V W) {r1 : zRt} {I1 : zI} (hf : zf2 [1, 3, 4, 5, 6] I I1) (a1 : zE (d + 4) kX5_take 0 [some (.ref 2), some (.int 129)] [] Z I J (none, Z, I1, J)) (h : zCl I1 K P r1 wo) (hN : zrok r1 → zNm I J u n N) :
    ∃ w I5, (∀ o : zO, zE (d + 5) kX5_readMan 68 [some (.ref 2), none, some (.long w), none, none] [] Z I5 J o → zE (d + 5) kX5_readMan 21 [some (.ref 2), none, none, none, none] [] Z I J o) ∧ zCl I5 K P (ztk K 2 r1) (zwom W N n 3 false r1 wo) ∧ zf2 zF8 I1 I5 ∧ ∀ t1, r1 = .ok t1 → K t1 = 2 → w = lN (W t1) ∧ W t1 < 2 ^ 40 := by
  have u2 : u ≠ 2 := by omega
  have T1 : zTC I1 J K P V W := hT.f2 hf
  obtain ⟨w, w1, w2⟩ := C_nameAt (d := d + 4) (I := I1) (J := J) hL (I1 2 3)
  obtain ⟨I3, a3, b3, f3⟩ := C_takeL (d := d + 2) (J := J) hL T1 hB (k := 2) (by decide) (by decide) h
  have f3' := f3.mono (F' := zF8) (by decide)
  have hw : ∀ t1, r1 = .ok t1 → K t1 = 2 → w = lN (W t1) ∧ W t1 < 2 ^ 40 := fun t1 e e2 => by
    subst e
    obtain ⟨⟨p1, p2⟩, p3, p4, -⟩ := h.1
    exact ⟨by rw [w2 t1 (by omega) p4]; exact (T1 t1 (by omega) p2).2.2 e2, hB.2.2 t1 e2⟩
  cases hr : ztk K 2 r1 with
  | error e =>
    rw [hr] at b3
    have ne := zCt.e0 b3.1
    obtain ⟨v, hv⟩ := C_manAny (d := d + 4) (I := I3) (J := J) hL w
    have fl : ∀ {x y : Int32}, zE (d + 4) kX5_failLater 0 [some (.ref 2), some (.int x), some (.int y)] [] Z I3 J (none, Z, I3, J) := BX5_failLater_0 _ _ hL ⟨fun _ => rfl, fun q => absurd q ne⟩
    exact ⟨w, I3, fun o k => BX5_readMan_21 hL ⟨I1, a1, w, w1, I3, a3, v, hv, fun _ => k, fun _ => ⟨I3, fl, k⟩⟩, b3.err, f3', hw⟩
  | ok t2 =>
    obtain ⟨t1, e1, e2, -, -⟩ := ztk_ok hr
    rw [hr] at b3
    obtain ⟨q1, q2⟩ := hw t1 e1 e2
    have hn := (hN (by rw [e1]; trivial)).f2 (hf.mono (F' := zF8) (by decide)) u2
    have hm := C_manNamed (d := d + 4) hL (hn.f2 f3 u2) q2
    rw [← q1] at hm
    have s5 : I1 2 5 = nI (P t1) := by subst e1; exact h.1.2.2.2.2
    obtain ⟨I4, c1, c2, c3⟩ := C_later (d := d + 4) (J := J) hL (k := 3) (i := t1) (by decide) b3
    rw [← s5] at c1
    have zw : zwom W N n 3 false r1 wo = zwq wo (zfnd N (W t1) n 0).isSome (3, t1) := by rw [e1]; unfold zwom; dsimp only; cases (zfnd N (W t1) n 0) <;> rfl
    rw [zw]
    cases hz : zfnd N (W t1) n 0 with
    | none =>
      rw [hz] at hm
      exact ⟨w, I3, fun o k => BX5_readMan_21 hL ⟨I1, a1, w, w1, I3, a3, -1, hm, fun _ => k, fun q => absurd rfl q⟩, by rw [show (none : Option Nat).isSome = false from rfl, zwq_f]; exact b3, f3', hw⟩
    | some m =>
      rw [hz] at hm
      have hlt := zfnd_lt n 0 m hz
      have h7 := hn.1
      refine ⟨w, I4, fun o k => BX5_readMan_21 hL ⟨I1, a1, w, w1, I3, a3, nI m, hm, fun q => ?_, fun _ => ⟨I4, c1, k⟩⟩, c2, f3'.tr (c3.mono (by decide)), hw⟩
      exfalso
      have : ¬ nI m < 0 := zneg (by omega)
      rw [q] at this
      exact this (by decide)
def zpMan (K V W : Nat → Nat) (t0 : Nat) (wo : Option (Nat × Nat)) (τ : Nat → Nat → Nat) (Λ : Nat → Option zLaw) (N : Nat → Nat) (cn : Nat) (C : Nat → Nat × Nat × Nat) : zPs :=
  let r0 : zRt := if τ 0 0 = 7 then .error (2, t0) else zgn t0
  (ztk K 3 (ztk K 3 (ztk K 2 r0)), zwob V 0 11 (ztk K 3 (ztk K 2 r0)) (zwob V 0 11 (ztk K 2 r0) (zwom W N (τ 0 0) 3 false r0 wo)), zu (zu (zu (zu (zu τ 1 (τ 0 0) (V (t0 + 2))) 2 (τ 0 0) (V (t0 + 3))) 3 (τ 0 0) 0) 4 (τ 0 0) 0) 0 0 (τ 0 0 + 1), (fun p => if p = τ 0 0 then none else Λ p), (fun m => if m = τ 0 0 then W (t0 + 1) else N m), cn + 1, fun i => if i = cn then (V (t0 + 2), V (t0 + 3), t0 + 2) else C i)
set_option maxHeartbeats 1000000 in
theorem C_readMan (hL : zLY Z t u) (hu : u = 3 ∨ u = 30) (hT : zTC I J K P V W) (hB : zTB K V W) (h : zCS I J u K P (.ok t0, wo, τ, Λ, N, cn, C)) (hk : K t0 = 129) :
    ∃ I' J', zE (d + 5) kX5_readMan 0 [some (.ref 2), none, none, none, none] [] Z I J (none, Z, I', J') ∧ zfrT u I I' ∧ zfrJ u J J' ∧ zCS I' J' u K P (zpMan K V W t0 wo τ Λ N cn C) := by
  obtain ⟨h1, h2⟩ := h
  have ht := h1.1.1.1
  have u2 : u ≠ 2 := by omega
  obtain ⟨c1, sz, c2, c3⟩ := h2 t0 rfl
  dsimp only at c1 c3
  have hN := c3.nm
  have hn7 := hN.1
  have e2m : I u 2 = nI (τ 0 0) := c3.2.1.1
  have e27 : I u 2 < 7 ↔ τ 0 0 < 7 := by rw [e2m, show (7 : Int32) = nI 7 from rfl, zlt (by omega) (by decide)]
  obtain ⟨r0, er0⟩ : ∃ r0 : zRt, r0 = if τ 0 0 = 7 then .error (2, t0) else zgn t0 := ⟨_, rfl⟩
  -- room for one more; MAN itself
  obtain ⟨I0, I1, g0, f0, a1, b1, f1⟩ : ∃ I0 I1, (∀ o : zO, zE (d + 5) kX5_readMan 21 [some (.ref 2), none, none, none, none] [] Z I0 J o → zE (d + 5) kX5_readMan 0 [some (.ref 2), none, none, none, none] [] Z I J o) ∧ zf2 [1, 3, 4, 5, 6] I I0 ∧ zE (d + 4) kX5_take 0 [some (.ref 2), some (.int 129)] [] Z I0 J (none, Z, I1, J) ∧ zCl I1 K P r0 wo ∧ zf2 [1, 3, 4, 5, 6] I0 I1 := by
    by_cases hc : τ 0 0 = 7
    · have fl := C_fail (d := d + 4) (Z := Z) (J := J) hL h1.1.2.1 (x := nI 2) (y := I 2 5)
      rw [h1.1.2.2.2.2] at fl
      have fF : zf2 [1, 3, 4, 5, 6] I (zu (zu I 2 6 (nI 2)) 2 1 (nI (P t0))) := (zf2.put (by decide)).tr (zf2.put (by decide))
      have hE0 : zCl (zu (zu I 2 6 (nI 2)) 2 1 (nI (P t0))) K P (.error (2, t0)) wo := ⟨zCt_fail (by decide), fun q => absurd q (by simp [zrok])⟩
      obtain ⟨I1, a1, b1, f1⟩ := C_takeL (d := d + 2) (J := J) hL (hT.f2 fF) hB (k := 129) (by decide) (by decide) hE0
      exact ⟨_, I1, fun o k => BX5_readMan_0 hL ⟨fun q => absurd (e27.mp q) (by omega), fun _ => ⟨_, by rw [h1.1.2.2.2.2]; exact fl, k⟩⟩, fF, a1, by rw [er0, if_pos hc]; exact b1, f1⟩
    · obtain ⟨I1, a1, b1, f1⟩ := C_takeL (d := d + 2) (J := J) hL hT hB (k := 129) (by decide) (by decide) h1
      dsimp only at b1
      rw [ztk_eq hk] at b1
      exact ⟨I, I1, fun o k => BX5_readMan_0 hL ⟨fun _ => k, fun q => absurd (e27.mpr (by omega)) q⟩, zf2.rf, a1, by rw [er0, if_neg hc]; exact b1, f1⟩
  obtain ⟨w, I5, g5, b5, f5, hw⟩ := C_man21 (d := d) hL hu (hT.f2 f0) hB f1 a1 b1 (n := τ 0 0) (N := N) (fun _ => hN.f2 f0 u2)
  have F5 : zf2 zF8 I I5 := ((f0.mono (by decide)).tr (f1.mono (by decide))).tr f5
  obtain ⟨I6, a6, b6, f6, f6', g6⟩ := C_corner (d := d) hL (hT.f2 F5) hB b5
  have R6 : ∀ a, a ≠ 2 → ¬ (26 ≤ a ∧ a ≤ 28) → I6 a = I a := fun a p q => by rw [f6 a p q, F5.1 a p]
  have fT6 : zfrT u I I6 := fun a p q _ => R6 a p (by omega)
  have ez : zpMan K V W t0 wo τ Λ N cn C = (ztk K 3 (ztk K 3 (ztk K 2 r0)), zwob V 0 11 (ztk K 3 (ztk K 2 r0)) (zwob V 0 11 (ztk K 2 r0) (zwom W N (τ 0 0) 3 false r0 wo)), zu (zu (zu (zu (zu τ 1 (τ 0 0) (V (t0 + 2))) 2 (τ 0 0) (V (t0 + 3))) 3 (τ 0 0) 0) 4 (τ 0 0) 0) 0 0 (τ 0 0 + 1), (fun p => if p = τ 0 0 then none else Λ p), (fun m => if m = τ 0 0 then W (t0 + 1) else N m), cn + 1, fun i => if i = cn then (V (t0 + 2), V (t0 + 3), t0 + 2) else C i) := by rw [er0]; rfl
  rw [ez]
  cases hr : ztk K 3 (ztk K 3 (ztk K 2 r0)) with
  | error e =>
    rw [hr] at b6
    have ne := zCt.e0 b6.1
    exact ⟨I6, J, g0 _ (g5 _ (BX5_readMan_68 _ hL ⟨_, I6, a6, fun _ => rfl, fun q => absurd q ne⟩)), fT6, fun _ _ => rfl, zCl.err b6, fun t3 q => absurd q (by simp)⟩
  | ok t4 =>
    have hrok : zrok (ztk K 3 (ztk K 3 (ztk K 2 r0))) := by rw [hr]; trivial
    rw [hr] at b6
    have ht4 : t4 ≤ 400 := b6.1.1.1
    obtain ⟨t3, e3, k3, -, q3⟩ := ztk_ok hr
    obtain ⟨t2, e2, k2, -, q2⟩ := ztk_ok e3
    obtain ⟨t1, e1, k1, -, q1⟩ := ztk_ok e2
    have hc : ¬ τ 0 0 = 7 := fun c => by rw [er0, if_pos c] at e1; exact absurd e1 (by simp)
    have eg : zgn t0 = .ok t1 := by rw [er0, if_neg hc] at e1; exact e1
    obtain ⟨-, q0⟩ := zgn_ok eg
    obtain ⟨w1, w2⟩ := hw t1 e1 k1
    obtain ⟨cc, m1, m2, m3⟩ := c1
    have m2' : I5 2 12 = nI cc := by rw [F5.2 12 (by decide)]; exact m2
    obtain ⟨s1, ⟨s2, s3, s4⟩, s5⟩ := g6 cc t2 m2' (by omega) e2 hrok
    have z0 := b6.1.2.1
    have xe : zat I6 27 400 (I5 2 12) = nI (V t2) := by rw [m2', zatI (by omega) (by decide)]; exact s3
    have ye : zat I6 28 400 (I5 2 12) = nI (V (t2 + 1)) := by rw [m2', zatI (by omega) (by decide)]; exact s4
    obtain ⟨I7, e7⟩ : ∃ I7 : zI, I7 = zu (zu (zu (zu (zu (zu I6 (u + 6) (τ 0 0) (nI (V t2))) (u + 7) (τ 0 0) (nI (V (t2 + 1)))) (u + 8) (τ 0 0) (-1)) (u + 10) (τ 0 0) 0) (u + 11) (τ 0 0) 0) u 2 (nI (τ 0 0 + 1)) := ⟨_, rfl⟩
    obtain ⟨J7, j7⟩ : ∃ J7 : zJ, J7 = zu J (u + 16) (τ 0 0) w := ⟨_, rfl⟩
    have p0 : I6 u 2 = nI (τ 0 0) := by rw [R6 u u2 (by omega)]; exact e2m
    have run : zE (d + 4) kX6_addMan 0 [some (.ref u), some (.long w), none, some (.int (zat I6 27 400 (I5 2 12))), some (.int (zat I6 28 400 (I5 2 12)))] [] Z I6 J (none, Z, I7, J7) := by
      rw [xe, ye]
      refine BX6_addMan_0 _ _ _ (ly_ux hL) ⟨fun c0 => absurd (by rw [p0] at c0; exact c0) (zneg (a := τ 0 0) (by omega)), fun _ => ⟨fun q => ?_, fun _ => ⟨by rw [p0]; exact zvin (by omega) (by decide), fun J1 y1 I8 y2 I9 y3 I10 y4 I11 y5 I12 y6 I13 y7 => ?_⟩⟩⟩
      · exfalso
        have q' : nI 7 ≤ I6 u 2 := q
        rw [p0, zle' (by decide) (by omega)] at q'; omega
      · rw [p0, zclm (by omega), ← j7] at y1
        rw [p0, zptI (by omega) (by decide)] at y2
        rw [show I8 u 2 = nI (τ 0 0) by rw [y2, zu_ne (by omega)]; exact p0, zptI (by omega) (by decide), y2] at y3
        rw [show I9 u 2 = nI (τ 0 0) by rw [y3, zu_ne (by omega), zu_ne (by omega)]; exact p0, zptI (by omega) (by decide), y3] at y4
        rw [show I10 u 2 = nI (τ 0 0) by rw [y4, zu_ne (by omega), zu_ne (by omega), zu_ne (by omega)]; exact p0, zptI (by omega) (by decide), y4] at y5
        rw [show I11 u 2 = nI (τ 0 0) by rw [y5, zu_ne (by omega), zu_ne (by omega), zu_ne (by omega), zu_ne (by omega)]; exact p0, zptI (by omega) (by decide), y5] at y6
        rw [show I12 u 2 = nI (τ 0 0) by rw [y6, zu_ne (by omega), zu_ne (by omega), zu_ne (by omega), zu_ne (by omega), zu_ne (by omega)]; exact p0, zadd1, y6, ← e7] at y7
        rw [y7, y1]
    have R : ∀ a, a ≠ u → a ≠ u + 6 → a ≠ u + 7 → a ≠ u + 8 → a ≠ u + 10 → a ≠ u + 11 → I7 a = I6 a := fun a p0 p1 p2 p3 p4 p5 => by rw [e7, zu_ne p0, zu_ne p5, zu_ne p4, zu_ne p3, zu_ne p2, zu_ne p1]
    have U : ∀ k, k ≠ 2 → I7 u k = I u k := fun k p => by rw [e7, zu_k p, zu_ne (by omega), zu_ne (by omega), zu_ne (by omega), zu_ne (by omega), zu_ne (by omega), R6 u u2 (by omega)]
    have r2 : I7 2 = I6 2 := R 2 (by omega) (by omega) (by omega) (by omega) (by omega) (by omega)
    have col : ∀ (b : Nat) (v : Int32), (b = 6 ∧ v = nI (V t2)) ∨ (b = 7 ∧ v = nI (V (t2 + 1))) ∨ (b = 8 ∧ v = -1) ∨ (b = 10 ∧ v = 0) ∨ (b = 11 ∧ v = 0) → I7 (u + b) (τ 0 0) = v ∧ ∀ m, m ≠ τ 0 0 → I7 (u + b) m = I (u + b) m := by
      intro b v hb
      rcases hb with ⟨rfl, rfl⟩ | ⟨rfl, rfl⟩ | ⟨rfl, rfl⟩ | ⟨rfl, rfl⟩ | ⟨rfl, rfl⟩
      · refine ⟨by rw [e7, zu_ne (by omega), zu_ne (by omega), zu_ne (by omega), zu_ne (by omega), zu_ne (by omega), zu_eq], fun m hm => by rw [e7, zu_ne (by omega), zu_ne (by omega), zu_ne (by omega), zu_ne (by omega), zu_ne (by omega), zu_k hm, R6 _ (by omega) (by omega)]⟩
      · refine ⟨by rw [e7, zu_ne (by omega), zu_ne (by omega), zu_ne (by omega), zu_ne (by omega), zu_eq], fun m hm => by rw [e7, zu_ne (by omega), zu_ne (by omega), zu_ne (by omega), zu_ne (by omega), zu_k hm, zu_ne (by omega), R6 _ (by omega) (by omega)]⟩
      · refine ⟨by rw [e7, zu_ne (by omega), zu_ne (by omega), zu_ne (by omega), zu_eq], fun m hm => by rw [e7, zu_ne (by omega), zu_ne (by omega), zu_ne (by omega), zu_k hm, zu_ne (by omega), zu_ne (by omega), R6 _ (by omega) (by omega)]⟩
      · refine ⟨by rw [e7, zu_ne (by omega), zu_ne (by omega), zu_eq], fun m hm => by rw [e7, zu_ne (by omega), zu_ne (by omega), zu_k hm, zu_ne (by omega), zu_ne (by omega), zu_ne (by omega), R6 _ (by omega) (by omega)]⟩
      · refine ⟨by rw [e7, zu_ne (by omega), zu_eq], fun m hm => by rw [e7, zu_ne (by omega), zu_k hm, zu_ne (by omega), zu_ne (by omega), zu_ne (by omega), zu_ne (by omega), R6 _ (by omega) (by omega)]⟩
    refine ⟨I7, J7, g0 _ (g5 _ (BX5_readMan_68 _ hL ⟨_, I6, a6, fun q => absurd z0 q, fun _ => ⟨I7, J7, run, rfl⟩⟩)), fun a p q s => by rw [R a (by omega) (by omega) (by omega) (by omega) (by omega) (by omega)]; exact fT6 a p q s, fun a p => by rw [j7, zu_ne p], b6.rw r2, fun t5 q5 => ?_⟩
    cases q5
    refine ⟨⟨cc + 1, by omega, by rw [r2]; exact s1, fun z => ?_⟩, sz, by omega, ?_⟩
    · obtain ⟨z1, z2⟩ := m3 (zwom_none (zwob_none (zwob_none z)))
      refine ⟨by rw [z1], fun i hi => ?_⟩
      dsimp only at hi ⊢
      rw [R 26 (by omega) (by omega) (by omega) (by omega) (by omega) (by omega), R 27 (by omega) (by omega) (by omega) (by omega) (by omega) (by omega), R 28 (by omega) (by omega) (by omega) (by omega) (by omega) (by omega)]
      by_cases e : i = cn
      · rw [e, ← z1, if_pos rfl]
        have et2 : t2 = t0 + 2 := by omega
        rw [et2] at s2 s3 s4
        exact ⟨s2, s3, s4⟩
      · obtain ⟨y1, y2, y3⟩ := s5 i (by omega)
        rw [if_neg e, y1, y2, y3, F5.1 26 (by decide), F5.1 27 (by decide), F5.1 28 (by decide)]
        exact z2 i (by omega)
    · obtain ⟨x1, x2, x3, x4, x5, x6, x7⟩ := c3
      have hl : ∀ {s : Int32} {x : Option zLaw}, zLs I u sz s x → zLs I7 u sz s x := fun h => h.same (fun j _ => ⟨by rw [R _ (by omega) (by omega) (by omega) (by omega) (by omega) (by omega), R6 _ (by omega) (by omega)], by rw [R _ (by omega) (by omega) (by omega) (by omega) (by omega) (by omega), R6 _ (by omega) (by omega)]⟩) (Nat.le_refl _)
      obtain ⟨τ', eτ⟩ : ∃ τ' : Nat → Nat → Nat, τ' = zu (zu (zu (zu (zu τ 1 (τ 0 0) (V (t0 + 2))) 2 (τ 0 0) (V (t0 + 3))) 3 (τ 0 0) 0) 4 (τ 0 0) 0) 0 0 (τ 0 0 + 1) := ⟨_, rfl⟩
      obtain ⟨N', eN⟩ : ∃ N' : Nat → Nat, N' = fun m => if m = τ 0 0 then W (t0 + 1) else N m := ⟨_, rfl⟩
      obtain ⟨Λ', eL⟩ : ∃ Λ' : Nat → Option zLaw, Λ' = fun p => if p = τ 0 0 then none else Λ p := ⟨_, rfl⟩
      dsimp only
      rw [← eτ, ← eN, ← eL]
      have nN : N' (τ 0 0) = W (t0 + 1) := by rw [eN]; exact if_pos rfl
      have nN2 : ∀ m, m ≠ τ 0 0 → N' m = N m := fun m hm => by rw [eN]; exact if_neg hm
      have nL : Λ' (τ 0 0) = none := by rw [eL]; exact if_pos rfl
      have nL2 : ∀ m, m ≠ τ 0 0 → Λ' m = Λ m := fun m hm => by rw [eL]; exact if_neg hm
      have t00 : τ' 0 0 = τ 0 0 + 1 := by rw [eτ, zu_eq]
      have t0k : ∀ k, k ≠ 0 → τ' 0 k = τ 0 k := fun k p => by rw [eτ, zu_k p, zu_ne (by decide), zu_ne (by decide), zu_ne (by decide), zu_ne (by decide)]
      have tx : ∀ x, 5 ≤ x → τ' x = τ x := fun x hx => by rw [eτ, zu_ne (by omega), zu_ne (by omega), zu_ne (by omega), zu_ne (by omega), zu_ne (by omega)]
      have t1 : τ' 1 (τ 0 0) = V (t0 + 2) ∧ τ' 2 (τ 0 0) = V (t0 + 3) ∧ τ' 3 (τ 0 0) = 0 ∧ τ' 4 (τ 0 0) = 0 := by
        refine ⟨?_, ?_, ?_, ?_⟩
        · rw [eτ, zu_ne (by decide), zu_ne (by decide), zu_ne (by decide), zu_ne (by decide), zu_eq]
        · rw [eτ, zu_ne (by decide), zu_ne (by decide), zu_ne (by decide), zu_eq]
        · rw [eτ, zu_ne (by decide), zu_ne (by decide), zu_eq]
        · rw [eτ, zu_ne (by decide), zu_eq]
      have tm : ∀ m, m ≠ τ 0 0 → τ' 1 m = τ 1 m ∧ τ' 2 m = τ 2 m ∧ τ' 3 m = τ 3 m ∧ τ' 4 m = τ 4 m := fun m hm => by
        refine ⟨?_, ?_, ?_, ?_⟩
        · rw [eτ, zu_ne (by decide), zu_ne (by decide), zu_ne (by decide), zu_ne (by decide), zu_k hm]
        · rw [eτ, zu_ne (by decide), zu_ne (by decide), zu_ne (by decide), zu_k hm, zu_ne (by decide)]
        · rw [eτ, zu_ne (by decide), zu_ne (by decide), zu_k hm, zu_ne (by decide), zu_ne (by decide)]
        · rw [eτ, zu_ne (by decide), zu_k hm, zu_ne (by decide), zu_ne (by decide), zu_ne (by decide)]
      obtain ⟨c6a, c6b⟩ := col 6 (nI (V t2)) (Or.inl ⟨rfl, rfl⟩)
      obtain ⟨c7a, c7b⟩ := col 7 (nI (V (t2 + 1))) (Or.inr (Or.inl ⟨rfl, rfl⟩))
      obtain ⟨c8a, c8b⟩ := col 8 (-1) (Or.inr (Or.inr (Or.inl ⟨rfl, rfl⟩)))
      obtain ⟨c10a, c10b⟩ := col 10 0 (Or.inr (Or.inr (Or.inr (Or.inl ⟨rfl, rfl⟩))))
      obtain ⟨c11a, c11b⟩ := col 11 0 (Or.inr (Or.inr (Or.inr (Or.inr ⟨rfl, rfl⟩))))
      unfold zXt
      rw [t00, t0k 1 (by decide), t0k 2 (by decide), t0k 3 (by decide), t0k 4 (by decide), tx 5 (by decide), tx 6 (by decide), tx 7 (by decide), tx 8 (by decide)]
      refine ⟨⟨by omega, x1.2.1, fun m hm => ?_⟩, ⟨by rw [e7, zu_eq], by rw [U 0 (by decide)]; exact x2.2.1, by rw [U 1 (by decide)]; exact x2.2.2.1, by rw [U 4 (by decide)]; exact x2.2.2.2.1, by rw [U 3 (by decide)]; exact x2.2.2.2.2⟩, fun m hm => ?_, fun m i hm hi => ?_, fun i hi => ?_, ?_, by rw [R _ (by omega) (by omega) (by omega) (by omega) (by omega) (by omega), R6 _ (by omega) (by omega)]; exact x7⟩
      · by_cases e : m = τ 0 0
        · rw [e, t1.2.2.2, nN]
          refine ⟨by decide, ?_⟩
          rw [← q0]; exact w2
        · rw [(tm m e).2.2.2, nN2 m e]; exact x1.2.2 m (by omega)
      · by_cases e : m = τ 0 0
        · rw [e, nN, nL, t1.1, t1.2.1, t1.2.2.1, t1.2.2.2, c6a, c7a, c8a, c10a, c11a, j7, zu_eq, w1, q0]
          refine ⟨⟨?_, ?_, rfl, rfl⟩, rfl, rfl⟩
          · rw [show t2 = t0 + 2 by omega]
          · rw [show t2 + 1 = t0 + 3 by omega]
        · obtain ⟨y1, y2, y3⟩ := x3 m (by omega)
          rw [nN2 m e, nL2 m e, (tm m e).1, (tm m e).2.1, (tm m e).2.2.1, (tm m e).2.2.2, c6b m e, c7b m e, c8b m e, c10b m e, c11b m e, j7, zu_k e]
          exact ⟨y1, y2, hl y3⟩
      · by_cases e : m = τ 0 0
        · rw [e, t1.2.2.2] at hi; omega
        · rw [(tm m e).2.2.2] at hi
          rw [R _ (by omega) (by omega) (by omega) (by omega) (by omega) (by omega), R _ (by omega) (by omega) (by omega) (by omega) (by omega) (by omega), R6 _ (by omega) (by omega), R6 _ (by omega) (by omega)]
          exact x4 m i (by omega) hi
      · rw [R _ (by omega) (by omega) (by omega) (by omega) (by omega) (by omega), R _ (by omega) (by omega) (by omega) (by omega) (by omega) (by omega), R6 _ (by omega) (by omega), R6 _ (by omega) (by omega)]
        exact x5 i hi
      · rw [nL2 7 (by omega), U 5 (by decide)]; exact hl x6
end
