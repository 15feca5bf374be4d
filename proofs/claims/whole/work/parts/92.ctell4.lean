/-! the class's reader: ERRAND -/
section
variable {d : Nat} {Z : zZ} {I I' : zI} {J J' : zJ} {t u t0 sz T T' cn n : Nat} {K P V W N : Nat → Nat} {τ : Nat → Nat → Nat} {Λ : Nat → Option zLaw} {C : Nat → Nat × Nat × Nat} {wo wo' : Option (Nat × Nat)} {o : zO} {r : zRt}
/-- the man of an ERRAND, by the NAME behind it -/
def zmE (K W N : Nat → Nat) (n t0 : Nat) : Option Nat := if K (t0 + 1) = 2 then zfnd N (W (t0 + 1)) n 0 else none
def zfulE (τ : Nat → Nat → Nat) (o : Option Nat) : Bool := match o with
  | none => false
  | some m => decide (τ 4 m = 6)
def zpErrand (K V W : Nat → Nat) (t0 : Nat) (wo : Option (Nat × Nat)) (τ : Nat → Nat → Nat) (Λ : Nat → Option zLaw) (N : Nat → Nat) (cn : Nat) (C : Nat → Nat × Nat × Nat) : zPs :=
  let r0 : zRt := if zfulE τ (zmE K W N (τ 0 0) t0) = true then .error (2, t0) else zgn t0
  (ztk K 3 (ztk K 3 (ztk K 2 r0)), zwob V 0 11 (ztk K 3 (ztk K 2 r0)) (zwob V 0 11 (ztk K 2 r0) (zwom W N (τ 0 0) 4 true r0 wo)), (match zmE K W N (τ 0 0) t0 with | none => τ | some m => zu (zu (zu τ 5 (6 * m + τ 4 m) (V (t0 + 2))) 6 (6 * m + τ 4 m) (V (t0 + 3))) 4 m (τ 4 m + 1)), Λ, N, (match zmE K W N (τ 0 0) t0 with | none => cn | some _ => cn + 1), fun i => if i = cn then (V (t0 + 2), V (t0 + 3), t0 + 2) else C i)
set_option maxHeartbeats 1000000 in
theorem C_readErrand (hL : zLY Z t u) (hu : u = 3 ∨ u = 30) (hT : zTC I J K P V W) (hB : zTB K V W) (h : zCS I J u K P (.ok t0, wo, τ, Λ, N, cn, C)) (hk : K t0 = 132) :
    ∃ I', zE (d + 5) kX5_readErrand 0 [some (.ref 2), none, none, none, none] [] Z I J (none, Z, I', J) ∧ zfrT u I I' ∧ zCS I' J u K P (zpErrand K V W t0 wo τ Λ N cn C) := by
  obtain ⟨h1, h2⟩ := h
  have ht := h1.1.1.1
  have u2 : u ≠ 2 := by omega
  obtain ⟨c1, sz, c2, c3⟩ := h2 t0 rfl
  dsimp only at c1 c3
  have hN := c3.nm
  have hn7 := hN.1
  obtain ⟨r0, er0⟩ : ∃ r0 : zRt, r0 = if zfulE τ (zmE K W N (τ 0 0) t0) = true then .error (2, t0) else zgn t0 := ⟨_, rfl⟩
  obtain ⟨I1, a1, b1, f1⟩ := C_takeL (d := d + 2) (J := J) hL hT hB (k := 132) (by decide) (by decide) h1
  dsimp only at b1
  rw [ztk_eq hk] at b1
  have neg0 : zat I1 (u + 11) 7 (-1) < 6 := by rw [zatN (by decide)]; decide
  -- is he one too many
  obtain ⟨I3, g3, b3, f3⟩ : ∃ I3, (∀ o : zO, zE (d + 5) kX5_readErrand 65 [some (.ref 2), none, none, none, none] [] Z I3 J o → zE (d + 5) kX5_readErrand 0 [some (.ref 2), none, none, none, none] [] Z I J o) ∧ zCl I3 K P r0 wo ∧ zf2 zF8 I I3 := by
    by_cases c400 : t0 = 400
    · have eg : zgn t0 = .error (2, t0) := by unfold zgn; rw [if_pos c400]
      rw [eg] at b1
      have ne := zCt.e0 b1.1
      have e0 : r0 = .error (2, t0) := by rw [er0, eg]; split <;> rfl
      obtain ⟨w, w1, -⟩ := C_nameAt (d := d + 4) (I := I1) (J := J) hL (I1 2 3)
      obtain ⟨v, hv⟩ := C_manAny (d := d + 4) (I := I1) (J := J) hL w
      have fl : ∀ {x y : Int32}, zE (d + 4) kX5_fail 0 [some (.ref 2), some (.int x), some (.int y)] [] Z I1 J (none, Z, I1, J) := C_failE hL ne
      exact ⟨I1, fun o k => BX5_readErrand_0 hL ⟨I1, a1, fun _ => ⟨fun _ => k, fun q => absurd neg0 q⟩, fun _ => ⟨w, w1, v, hv, fun _ => k, fun _ => ⟨I1, fl, k⟩⟩⟩, by rw [e0]; exact b1.err, f1.mono (by decide)⟩
    · have eg : zgn t0 = .ok (t0 + 1) := by unfold zgn; rw [if_neg c400]
      rw [eg] at b1
      obtain ⟨⟨p1, p2⟩, p3, p4, p5, p6⟩ := b1.1
      have hK1 := hB.1 (t0 + 1)
      by_cases c2' : K (t0 + 1) = 2
      · obtain ⟨w, w1, w2⟩ := C_nameAt (d := d + 4) (I := I1) (J := J) hL (I1 2 3)
        have q1 : w = lN (W (t0 + 1)) := by rw [w2 (t0 + 1) (by omega) p4]; exact ((hT.f2 f1) (t0 + 1) (by omega) p2).2.2 c2'
        have hm := C_manNamed (d := d + 4) hL (hN.f2 f1 u2) (hB.2.2 (t0 + 1) c2')
        rw [← q1] at hm
        have em : zmE K W N (τ 0 0) t0 = zfnd N (W (t0 + 1)) (τ 0 0) 0 := by unfold zmE; rw [if_pos c2']
        have k2 : I1 2 4 = 2 := by rw [p5, c2']; rfl
        cases hz : zfnd N (W (t0 + 1)) (τ 0 0) 0 with
        | none =>
          rw [hz] at hm
          have e0 : r0 = .ok (t0 + 1) := by rw [er0, em, hz, eg]; rfl
          exact ⟨I1, fun o k => BX5_readErrand_0 hL ⟨I1, a1, fun q => absurd k2 q, fun _ => ⟨w, w1, -1, hm, fun _ => k, fun q => absurd neg0 q⟩⟩, by rw [e0]; exact b1, f1.mono (by decide)⟩
        | some m =>
          rw [hz] at hm
          obtain ⟨-, hml, -⟩ := zfnd_lt _ _ _ hz
          have e11 : zat I1 (u + 11) 7 (nI m) = nI (τ 4 m) := by rw [zatI (by omega) (by decide), f1.1 _ (by omega)]; exact (c3.2.2.1 m (by omega)).1.2.2.2
          have h46 := (c3.1.2.2 m (by omega)).1
          have e6 : zat I1 (u + 11) 7 (nI m) < 6 ↔ τ 4 m < 6 := by rw [e11, show (6 : Int32) = nI 6 from rfl, zlt (by omega) (by decide)]
          by_cases cf : τ 4 m = 6
          · have e0 : r0 = .error (2, t0) := by rw [er0, em, hz]; show (if decide (τ 4 m = 6) = true then (.error (2, t0) : zRt) else zgn t0) = _; rw [if_pos (decide_eq_true cf)]
            have fl := C_fail (d := d + 4) (Z := Z) (J := J) hL p3 (x := nI 2) (y := I 2 5)
            rw [h1.1.2.2.2.2] at fl
            have fF : zf2 zF8 I1 (zu (zu I1 2 6 (nI 2)) 2 1 (nI (P t0))) := (zf2.put (by decide)).tr (zf2.put (by decide))
            exact ⟨_, fun o k => BX5_readErrand_0 hL ⟨I1, a1, fun q => absurd k2 q, fun _ => ⟨w, w1, nI m, hm, fun q => absurd (e6.mp q) (by omega), fun _ => ⟨_, by rw [h1.1.2.2.2.2]; exact fl, k⟩⟩⟩, by rw [e0]; exact ⟨zCt_fail (by decide), fun q => absurd q (by simp [zrok])⟩, (f1.mono (by decide)).tr fF⟩
          · have e0 : r0 = .ok (t0 + 1) := by rw [er0, em, hz, eg]; show (if decide (τ 4 m = 6) = true then (.error (2, t0) : zRt) else _) = _; rw [if_neg (by simpa using cf)]
            exact ⟨I1, fun o k => BX5_readErrand_0 hL ⟨I1, a1, fun q => absurd k2 q, fun _ => ⟨w, w1, nI m, hm, fun _ => k, fun q => absurd (e6.mpr (by omega)) q⟩⟩, by rw [e0]; exact b1, f1.mono (by decide)⟩
      · have em : zmE K W N (τ 0 0) t0 = none := by unfold zmE; rw [if_neg c2']
        have e0 : r0 = .ok (t0 + 1) := by rw [er0, em, eg]; rfl
        have k2 : ¬ I1 2 4 = 2 := by rw [p5, show (2 : Int32) = nI 2 from rfl, zeq (by omega) (by decide)]; exact c2'
        exact ⟨I1, fun o k => BX5_readErrand_0 hL ⟨I1, a1, fun _ => ⟨fun _ => k, fun q => absurd neg0 q⟩, fun q => absurd q k2⟩, by rw [e0]; exact b1, f1.mono (by decide)⟩
  obtain ⟨v1, I5, a5, b5, f5, g5⟩ := C_takeMan (d := d + 1) (J := J) hL hu (hT.f2 f3) hB (n := τ 0 0) (N := N) (fun _ => hN.f2 f3 u2) b3
  have F5 : zf2 zF8 I I5 := f3.tr f5
  obtain ⟨I6, a6, b6, f6, f6', g6⟩ := C_corner (d := d) hL (hT.f2 F5) hB b5
  have R6 : ∀ a, a ≠ 2 → ¬ (26 ≤ a ∧ a ≤ 28) → I6 a = I a := fun a p q => by rw [f6 a p q, F5.1 a p]
  have fT6 : zfrT u I I6 := fun a p q _ => R6 a p (by omega)
  have ez : zpErrand K V W t0 wo τ Λ N cn C = (ztk K 3 (ztk K 3 (ztk K 2 r0)), zwob V 0 11 (ztk K 3 (ztk K 2 r0)) (zwob V 0 11 (ztk K 2 r0) (zwom W N (τ 0 0) 4 true r0 wo)), (match zmE K W N (τ 0 0) t0 with | none => τ | some m => zu (zu (zu τ 5 (6 * m + τ 4 m) (V (t0 + 2))) 6 (6 * m + τ 4 m) (V (t0 + 3))) 4 m (τ 4 m + 1)), Λ, N, (match zmE K W N (τ 0 0) t0 with | none => cn | some _ => cn + 1), fun i => if i = cn then (V (t0 + 2), V (t0 + 3), t0 + 2) else C i) := by rw [er0]; rfl
  rw [ez]
  cases hr : ztk K 3 (ztk K 3 (ztk K 2 r0)) with
  | error e =>
    rw [hr] at b6
    have ne := zCt.e0 b6.1
    exact ⟨I6, g3 _ (BX5_readErrand_65 hL ⟨v1, I5, a5, _, I6, a6, fun _ => rfl, fun q => absurd q ne⟩), fT6, zCl.err b6, fun t3 q => absurd q (by simp)⟩
  | ok t4 =>
    have hrok : zrok (ztk K 3 (ztk K 3 (ztk K 2 r0))) := by rw [hr]; trivial
    rw [hr] at b6
    have ht4 : t4 ≤ 400 := b6.1.1.1
    obtain ⟨t3, e3, k3, -, q3⟩ := ztk_ok hr
    obtain ⟨t2, e2, k2, -, q2⟩ := ztk_ok e3
    obtain ⟨t1, e1, k1, -, q1⟩ := ztk_ok e2
    have hc : ¬ zfulE τ (zmE K W N (τ 0 0) t0) = true := fun c => by rw [er0, if_pos c] at e1; exact absurd e1 (by simp)
    have eg : zgn t0 = .ok t1 := by rw [er0, if_neg hc] at e1; exact e1
    obtain ⟨-, q0⟩ := zgn_ok eg
    have v1e := g5 t1 e1 k1
    rw [q0] at v1e k1
    have em : zmE K W N (τ 0 0) t0 = zfnd N (W (t0 + 1)) (τ 0 0) 0 := by unfold zmE; rw [if_pos k1]
    rw [← em] at v1e
    obtain ⟨cc, m1, m2, m3⟩ := c1
    have m2' : I5 2 12 = nI cc := by rw [F5.2 12 (by decide)]; exact m2
    obtain ⟨s1, ⟨s2, s3, s4⟩, s5⟩ := g6 cc t2 m2' (by omega) e2 hrok
    have z0 := b6.1.2.1
    have xe : zat I6 27 400 (I5 2 12) = nI (V t2) := by rw [m2', zatI (by omega) (by decide)]; exact s3
    have ye : zat I6 28 400 (I5 2 12) = nI (V (t2 + 1)) := by rw [m2', zatI (by omega) (by decide)]; exact s4
    have hwn : ∀ m, zwob V 0 11 (ztk K 3 (ztk K 2 r0)) (zwob V 0 11 (ztk K 2 r0) (zwom W N (τ 0 0) 4 true r0 wo)) = none → zmE K W N (τ 0 0) t0 = none → m ∈ ([] : List Nat) := fun m z z2 => by
      have := zwob_none (zwob_none z)
      rw [e1] at this
      have h3 := (zwq_none this).2
      rw [q0, ← em, z2] at h3
      exact absurd h3 (by decide)
    cases hz : zmE K W N (τ 0 0) t0 with
    | none =>
      rw [hz] at v1e hwn
      refine ⟨I6, g3 _ (BX5_readErrand_65 hL ⟨v1, I5, a5, _, I6, a6, fun q => absurd z0 q, fun _ => ⟨fun _ => rfl, fun q => absurd v1e q⟩⟩), fT6, b6, fun t5 q5 => ?_⟩
      cases q5
      refine ⟨⟨cc + 1, by omega, s1, fun z => absurd (hwn 0 z rfl) (by simp)⟩, sz, by omega, ?_⟩
      show zXt I6 J u τ Λ N sz
      exact c3.same (fun a p q => R6 a (by omega) (by omega)) rfl
    | some m =>
      rw [hz] at v1e hc
      have hz' : zfnd N (W (t0 + 1)) (τ 0 0) 0 = some m := by rw [← em]; exact hz
      obtain ⟨-, hml, -⟩ := zfnd_lt _ _ _ hz'
      have hml' : m < τ 0 0 := by omega
      have h46 := (c3.1.2.2 m hml').1
      have h4 : τ 4 m < 6 := by
        have : ¬ τ 4 m = 6 := fun e => hc (decide_eq_true e)
        omega
      obtain ⟨q, eq⟩ : ∃ q, q = 6 * m + τ 4 m := ⟨_, rfl⟩
      obtain ⟨I7, e7⟩ : ∃ I7 : zI, I7 = zu (zu (zu I6 (u + 12) q (nI (V t2))) (u + 13) q (nI (V (t2 + 1)))) (u + 11) m (nI (τ 4 m + 1)) := ⟨_, rfl⟩
      have e11 : I6 (u + 11) m = nI (τ 4 m) := by rw [R6 _ (by omega) (by omega)]; exact (c3.2.2.1 m hml').1.2.2.2
      have run : zE (d + 4) kX6_addErrand 0 [some (.ref u), some (.int v1), some (.int (zat I6 27 400 (I5 2 12))), some (.int (zat I6 28 400 (I5 2 12))), none] [] Z I6 J (none, Z, I7, J) := by
        rw [xe, ye, v1e]
        refine BX6_addErrand_0 _ _ _ (ly_ux hL) (fun y1 y1e I8 y2 I9 y3 I10 y4 => ?_)
        rw [show zoi (some m) = nI m from rfl, zatI (by omega) (by decide), e11, show (6 : Int32) = nI 6 from rfl, zmul, zadd, show m * 6 + τ 4 m = q by omega] at y1e
        rw [y1e, zptI (by omega) (by decide)] at y2
        rw [y1e, zptI (by omega) (by decide), y2] at y3
        rw [show zoi (some m) = nI m from rfl, zatI (by omega) (by decide), zptI (by omega) (by decide), y3, zu_ne (show u + 11 ≠ u + 13 by omega), zu_ne (show u + 11 ≠ u + 12 by omega), e11, zadd1, ← e7] at y4
        rw [y4]
      have nm1 : ¬ v1 = -1 := fun z => by
        have : ¬ nI m < 0 := zneg (by omega)
        rw [v1e] at z
        rw [show nI m = zoi (some m) from rfl, z] at this
        exact this (by decide)
      have R : ∀ a, a ≠ u + 11 → a ≠ u + 12 → a ≠ u + 13 → I7 a = I6 a := fun a p1 p2 p3 => by rw [e7, zu_ne p1, zu_ne p3, zu_ne p2]
      have r2 : I7 2 = I6 2 := R 2 (by omega) (by omega) (by omega)
      refine ⟨I7, g3 _ (BX5_readErrand_65 hL ⟨v1, I5, a5, _, I6, a6, fun q => absurd z0 q, fun _ => ⟨fun q => absurd q nm1, fun _ => ⟨I7, run, rfl⟩⟩⟩), fun a p q s => by rw [R a (by omega) (by omega) (by omega)]; exact fT6 a p q s, b6.rw r2, fun t5 q5 => ?_⟩
      cases q5
      refine ⟨⟨cc + 1, by omega, by rw [r2]; exact s1, fun z => ?_⟩, sz, by omega, ?_⟩
      · obtain ⟨z1, z2⟩ := m3 (zwom_none (zwob_none (zwob_none z)))
        refine ⟨by rw [z1], fun i hi => ?_⟩
        dsimp only at hi ⊢
        rw [R 26 (by omega) (by omega) (by omega), R 27 (by omega) (by omega) (by omega), R 28 (by omega) (by omega) (by omega)]
        by_cases e : i = cn
        · rw [e, ← z1, if_pos rfl]
          have et2 : t2 = t0 + 2 := by omega
          rw [et2] at s2 s3 s4
          exact ⟨s2, s3, s4⟩
        · obtain ⟨y1, y2, y3⟩ := s5 i (by omega)
          rw [if_neg e, y1, y2, y3, F5.1 26 (by decide), F5.1 27 (by decide), F5.1 28 (by decide)]
          have hi' : i < cn + 1 := hi
          exact z2 i (by omega)
      · obtain ⟨x1, x2, x3, x4, x5, x6, x7⟩ := c3
        have RI : ∀ a, u ≤ a → a ≤ u + 16 → a ≠ u + 11 → a ≠ u + 12 → a ≠ u + 13 → I7 a = I a := fun a g1 g2 p1 p2 p3 => by rw [R a p1 p2 p3, R6 a (by omega) (by omega)]
        have hl : ∀ {s : Int32} {x : Option zLaw}, zLs I u sz s x → zLs I7 u sz s x := fun h => h.same (fun j _ => ⟨by rw [RI _ (by omega) (by omega) (by omega) (by omega) (by omega)], by rw [RI _ (by omega) (by omega) (by omega) (by omega) (by omega)]⟩) (Nat.le_refl _)
        dsimp only
        show zXt I7 J u (zu (zu (zu τ 5 (6 * m + τ 4 m) (V (t0 + 2))) 6 (6 * m + τ 4 m) (V (t0 + 3))) 4 m (τ 4 m + 1)) Λ N sz
        rw [← eq]
        obtain ⟨τ', eτ⟩ : ∃ τ' : Nat → Nat → Nat, τ' = zu (zu (zu τ 5 q (V (t0 + 2))) 6 q (V (t0 + 3))) 4 m (τ 4 m + 1) := ⟨_, rfl⟩
        rw [← eτ]
        have tx : ∀ x, x ≠ 4 → x ≠ 5 → x ≠ 6 → τ' x = τ x := fun x h4 h5 h6 => by rw [eτ, zu_ne h4, zu_ne h6, zu_ne h5]
        have t4m : τ' 4 m = τ 4 m + 1 := by rw [eτ, zu_eq]
        have t4n : ∀ m', m' ≠ m → τ' 4 m' = τ 4 m' := fun m' hm => by rw [eτ, zu_k hm, zu_ne (by decide), zu_ne (by decide)]
        have t56 : τ' 5 q = V (t0 + 2) ∧ τ' 6 q = V (t0 + 3) := ⟨by rw [eτ, zu_ne (by decide), zu_ne (by decide), zu_eq], by rw [eτ, zu_ne (by decide), zu_eq]⟩
        have t56n : ∀ j, j ≠ q → τ' 5 j = τ 5 j ∧ τ' 6 j = τ 6 j := fun j hj => ⟨by rw [eτ, zu_ne (by decide), zu_ne (by decide), zu_k hj], by rw [eτ, zu_ne (by decide), zu_k hj, zu_ne (by decide)]⟩
        have c12 : I7 (u + 12) q = nI (V t2) := by rw [e7, zu_ne (by omega), zu_ne (by omega), zu_eq]
        have c13 : I7 (u + 13) q = nI (V (t2 + 1)) := by rw [e7, zu_ne (by omega), zu_eq]
        have c12n : ∀ j, j ≠ q → I7 (u + 12) j = I (u + 12) j ∧ I7 (u + 13) j = I (u + 13) j := fun j hj => ⟨by rw [e7, zu_ne (by omega), zu_ne (by omega), zu_k hj, R6 _ (by omega) (by omega)], by rw [e7, zu_ne (by omega), zu_k hj, zu_ne (by omega), R6 _ (by omega) (by omega)]⟩
        have c11 : I7 (u + 11) m = nI (τ 4 m + 1) := by rw [e7, zu_eq]
        have c11n : ∀ m', m' ≠ m → I7 (u + 11) m' = I (u + 11) m' := fun m' hm => by rw [e7, zu_k hm, zu_ne (by omega), zu_ne (by omega), R6 _ (by omega) (by omega)]
        unfold zXt
        rw [tx 0 (by decide) (by decide) (by decide), tx 1 (by decide) (by decide) (by decide), tx 2 (by decide) (by decide) (by decide), tx 3 (by decide) (by decide) (by decide), tx 7 (by decide) (by decide) (by decide), tx 8 (by decide) (by decide) (by decide)]
        refine ⟨⟨x1.1, x1.2.1, fun m' hm => ?_⟩, by rw [RI u (by omega) (by omega) (by omega) (by omega) (by omega)]; exact x2, fun m' hm => ?_, fun m' i hm hi => ?_, fun i hi => ?_, by rw [RI u (by omega) (by omega) (by omega) (by omega) (by omega)]; exact hl x6, by rw [RI _ (by omega) (by omega) (by omega) (by omega) (by omega)]; exact x7⟩
        · by_cases e : m' = m
          · rw [e, t4m]; exact ⟨by omega, (x1.2.2 m hml').2⟩
          · rw [t4n m' e]; exact x1.2.2 m' hm
        · obtain ⟨⟨y1, y1b, y1c, y1d⟩, y2, y3⟩ := x3 m' hm
          rw [RI (u + 6) (by omega) (by omega) (by omega) (by omega) (by omega), RI (u + 7) (by omega) (by omega) (by omega) (by omega) (by omega), RI (u + 10) (by omega) (by omega) (by omega) (by omega) (by omega), RI (u + 8) (by omega) (by omega) (by omega) (by omega) (by omega)]
          refine ⟨⟨y1, y1b, y1c, ?_⟩, y2, hl y3⟩
          by_cases e : m' = m
          · rw [e, t4m]; exact c11
          · rw [t4n m' e, c11n m' e]; exact y1d
        · by_cases e : 6 * m' + i = q
          · rw [e, t56.1, t56.2, c12, c13, show t2 = t0 + 2 by omega]
            exact ⟨rfl, rfl⟩
          · rw [(t56n _ e).1, (t56n _ e).2, (c12n _ e).1, (c12n _ e).2]
            refine x4 m' i hm ?_
            by_cases e2 : m' = m
            · rw [e2, t4m] at hi
              rw [e2] at e ⊢
              omega
            · rw [t4n m' e2] at hi; exact hi
        · rw [RI _ (by omega) (by omega) (by omega) (by omega) (by omega), RI _ (by omega) (by omega) (by omega) (by omega) (by omega)]
          exact x5 i hi
end
