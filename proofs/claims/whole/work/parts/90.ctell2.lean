/-! the class's reader: SEED, PILLAR, DYE -/
section
variable {d : Nat} {Z : zZ} {I I' : zI} {J J' : zJ} {t u t0 sz T T' cn : Nat} {K P V W N : Nat → Nat} {τ : Nat → Nat → Nat} {Λ : Nat → Option zLaw} {C : Nat → Nat × Nat × Nat} {wo wo' : Option (Nat × Nat)} {o : zO} {r : zRt}
theorem zCl.rw (h : zCl I K P r wo) (h2 : I' 2 = I 2) : zCl I' K P r wo := ⟨h.1.rw h2, fun q => by
  have := h.2 q
  cases wo with
  | none => exact (congrFun h2 7).trans this
  | some x => exact ⟨this.1, (congrFun h2 7).trans this.2.1, (congrFun h2 8).trans this.2.2⟩⟩
theorem ztk_eq {k : Nat} (hk : K t0 = k) : ztk K k (.ok t0) = zgn t0 := by unfold ztk; dsimp only; rw [if_pos hk]
/-- the class reads a SEED -/
def zpSeed (K V : Nat → Nat) (t0 : Nat) (wo : Option (Nat × Nat)) (τ : Nat → Nat → Nat) (Λ : Nat → Option zLaw) (N : Nat → Nat) (cn : Nat) (C : Nat → Nat × Nat × Nat) : zPs :=
  (ztk K 3 (zgn t0), zwob V 0 9999 (zgn t0) wo, zu τ 0 3 (V (t0 + 1)), Λ, N, cn, C)
theorem C_seed (hL : zLY Z t u) (hu : u = 3 ∨ u = 30) (hT : zTC I J K P V W) (hB : zTB K V W) (h : zCS I J u K P (.ok t0, wo, τ, Λ, N, cn, C)) (hk : K t0 = 135) :
    ∃ I2 v3 I4, zE (d + 5) kX5_take 0 [some (.ref 2), some (.int (I 2 4))] [] Z I J (none, Z, I2, J) ∧ zE (d + 5) kX5_takeInt 0 [some (.ref 2), some (.int 0), some (.int 9999), none, none] [] Z I2 J (some (.int v3), Z, I4, J) ∧ zfrT u I (zu I4 u 4 v3) ∧ zCS (zu I4 u 4 v3) J u K P (zpSeed K V t0 wo τ Λ N cn C) := by
  obtain ⟨h1, h2⟩ := h
  have ht := h1.1.1.1
  have u2 : u ≠ 2 := by omega
  have e4 : I 2 4 = nI 135 := by rw [h1.1.2.2.2.1, hk]
  obtain ⟨I2, a1, b1, f1⟩ := C_takeL (d := d + 3) (J := J) hL hT hB (k := 135) (by decide) (by decide) h1
  dsimp only at b1
  rw [ztk_eq hk] at b1
  obtain ⟨v3, I4, a2, b2, f2, g2⟩ := C_takeInt (d := d + 2) (J := J) hL (hT.f2 f1) hB (a := 0) (b := 9999) (by decide) (by decide) b1
  refine ⟨I2, v3, I4, by rw [e4]; exact a1, a2, ((zfrT.f2 f1).tr (zfrT.f2 f2)).tr (zfrT.put hu (Or.inl ⟨by omega, by omega⟩)), b2.rw (zu_ne (fun e => u2 e.symm)), fun t3 e3 => ?_⟩
  obtain ⟨t1, e1, k1, -, q1⟩ := ztk_ok e3
  obtain ⟨-, q0⟩ := zgn_ok e1
  have v3e := g2 t1 e1 k1
  obtain ⟨c1, sz, c2, c3⟩ := h2 t0 rfl
  dsimp only at c1 c3
  have R : ∀ a, a ≠ 2 → a ≠ u → zu I4 u 4 v3 a = I a := fun a p q => by rw [zu_ne q, f2.1 a p, f1.1 a p]
  have U : ∀ k, k ≠ 4 → zu I4 u 4 v3 u k = I u k := fun k p => by rw [zu_k p, f2.1 u u2, f1.1 u u2]
  refine ⟨c1.same ?_ (fun a p q => R a (by omega) (by omega)) (by omega) (fun z => zwob_none z), sz, by omega, ?_⟩
  · rw [zu_ne (fun e => u2 e.symm), f2.2 12 (by decide), f1.2 12 (by decide)]
  · obtain ⟨x1, x2, x3, x4, x5, x6, x7⟩ := c3
    have hl : ∀ {s : Int32} {x : Option zLaw}, zLs I u sz s x → zLs (zu I4 u 4 v3) u sz s x := fun h => h.same (fun j _ => ⟨by rw [R _ (by omega) (by omega)], by rw [R _ (by omega) (by omega)]⟩) (Nat.le_refl _)
    unfold zXt
    dsimp only [zpSeed]
    rw [zu_k (show (0 : Nat) ≠ 3 by decide), zu_k (show (4 : Nat) ≠ 3 by decide), zu_k (show (1 : Nat) ≠ 3 by decide), zu_k (show (2 : Nat) ≠ 3 by decide), zfu (x := 1) (by decide), zfu (x := 2) (by decide), zfu (x := 3) (by decide), zfu (x := 4) (by decide), zfu (x := 5) (by decide), zfu (x := 6) (by decide), zfu (x := 7) (by decide), zfu (x := 8) (by decide)]
    refine ⟨x1, ⟨by rw [U 2 (by decide)]; exact x2.1, by rw [U 0 (by decide)]; exact x2.2.1, by rw [U 1 (by decide)]; exact x2.2.2.1, by rw [zu_eq, zu_eq, v3e, q0], by rw [U 3 (by decide)]; exact x2.2.2.2.2⟩, fun m hm => ?_, fun m i hm hi => ?_, fun i hi => ?_, by rw [U 5 (by decide)]; exact hl x6, by rw [R _ (by omega) (by omega)]; exact x7⟩
    · obtain ⟨y1, y2, y3⟩ := x3 m hm
      rw [R _ (by omega) (by omega), R _ (by omega) (by omega), R _ (by omega) (by omega), R _ (by omega) (by omega), R (u + 8) (by omega) (by omega)]
      exact ⟨y1, y2, hl y3⟩
    · rw [R _ (by omega) (by omega), R _ (by omega) (by omega)]; exact x4 m i hm hi
    · rw [R _ (by omega) (by omega), R _ (by omega) (by omega)]; exact x5 i hi
/-- the class reads a DYE -/
def zpDye (K V W : Nat → Nat) (t0 : Nat) (wo : Option (Nat × Nat)) (τ : Nat → Nat → Nat) (Λ : Nat → Option zLaw) (N : Nat → Nat) (cn : Nat) (C : Nat → Nat × Nat × Nat) : zPs :=
  (ztk K 3 (ztk K 2 (zgn t0)), zwob V 0 9 (ztk K 2 (zgn t0)) (zwom W N (τ 0 0) 4 true (zgn t0) wo), (match zfnd N (W (t0 + 1)) (τ 0 0) 0 with | none => τ | some m => zu τ 3 m (V (t0 + 2))), Λ, N, cn, C)
theorem C_dye (hL : zLY Z t u) (hu : u = 3 ∨ u = 30) (hT : zTC I J K P V W) (hB : zTB K V W) (h : zCS I J u K P (.ok t0, wo, τ, Λ, N, cn, C)) (hk : K t0 = 134) :
    ∃ I2 v3 I4 v6 I7, zE (d + 5) kX5_take 0 [some (.ref 2), some (.int (I 2 4))] [] Z I J (none, Z, I2, J) ∧ zE (d + 5) kX5_takeMan 0 [some (.ref 2), none, none] [] Z I2 J (some (.int v3), Z, I4, J) ∧ zE (d + 5) kX5_takeInt 0 [some (.ref 2), some (.int 0), some (.int 9), none, none] [] Z I4 J (some (.int v6), Z, I7, J) ∧ zfrT u I (zpt I7 (u + 10) 7 v3 v6) ∧ zCS (zpt I7 (u + 10) 7 v3 v6) J u K P (zpDye K V W t0 wo τ Λ N cn C) := by
  obtain ⟨h1, h2⟩ := h
  have ht := h1.1.1.1
  have u2 : u ≠ 2 := by omega
  have e4 : I 2 4 = nI 134 := by rw [h1.1.2.2.2.1, hk]
  obtain ⟨c1, sz, c2, c3⟩ := h2 t0 rfl
  dsimp only at c1 c3
  have hN := c3.nm
  obtain ⟨I2, a1, b1, f1⟩ := C_takeL (d := d + 3) (J := J) hL hT hB (k := 134) (by decide) (by decide) h1
  dsimp only at b1
  rw [ztk_eq hk] at b1
  obtain ⟨v3, I4, a2, b2, f2, g2⟩ := C_takeMan (d := d + 2) (J := J) hL hu (hT.f2 f1) hB (n := τ 0 0) (N := N) (fun _ => hN.f2 f1 u2) b1
  obtain ⟨v6, I7, a3, b3, f3, g3⟩ := C_takeInt (d := d + 2) (J := J) hL ((hT.f2 f1).f2 f2) hB (a := 0) (b := 9) (by decide) (by decide) b2
  have R7 : ∀ a, a ≠ 2 → I7 a = I a := fun a p => by rw [f3.1 a p, f2.1 a p, f1.1 a p]
  have pz : ∀ a, a ≠ u + 10 → zpt I7 (u + 10) 7 v3 v6 a = I7 a := fun a p => by funext k; rw [zpt_a p]
  refine ⟨I2, v3, I4, v6, I7, by rw [e4]; exact a1, a2, a3, fun a p _ q => by rw [pz a (by omega), R7 a p], b3.rw (pz 2 (by omega)), fun t3 e3 => ?_⟩
  obtain ⟨t2, e2, k2, -, q2⟩ := ztk_ok e3
  obtain ⟨t1, e1, k1, -, q1⟩ := ztk_ok e2
  obtain ⟨-, q0⟩ := zgn_ok e1
  have v3e := g2 t1 e1 k1
  have v6e := g3 t2 e2 k2
  rw [q0] at v3e
  refine ⟨c1.same ?_ (fun a p q => by rw [pz a (by omega), R7 a (by omega)]) (by omega) (fun z => zwom_none (zwob_none z)), sz, by omega, ?_⟩
  · rw [pz 2 (by omega), f3.2 12 (by decide), f2.2 12 (by decide), f1.2 12 (by decide)]
  · dsimp only [zpDye]
    cases hz : zfnd N (W (t0 + 1)) (τ 0 0) 0 with
    | none =>
      rw [hz] at v3e
      have ez : zpt I7 (u + 10) 7 v3 v6 = I7 := by rw [v3e]; unfold zpt; rw [if_neg]; rintro ⟨q, -⟩; exact absurd q (by decide)
      rw [ez]
      show zXt I7 J u τ Λ N sz
      exact c3.same (fun a p q => R7 a (by omega)) rfl
    | some m =>
      rw [hz] at v3e
      have hm7 := hN.1
      obtain ⟨-, hml, -⟩ := zfnd_lt _ _ _ hz
      have ez : zpt I7 (u + 10) 7 v3 v6 = zu I7 (u + 10) m (nI (V (t0 + 2))) := by rw [v3e, show zoi (some m) = nI m from rfl, zptI (by omega) (by decide), v6e, q1, q0]
      rw [ez] at pz ⊢
      obtain ⟨x1, x2, x3, x4, x5, x6, x7⟩ := c3
      have R : ∀ a, a ≠ 2 → a ≠ u + 10 → zu I7 (u + 10) m (nI (V (t0 + 2))) a = I a := fun a p q => by rw [pz a q, R7 a p]
      have hl : ∀ {s : Int32} {x : Option zLaw}, zLs I u sz s x → zLs (zu I7 (u + 10) m (nI (V (t0 + 2)))) u sz s x := fun h => h.same (fun j _ => ⟨by rw [R _ (by omega) (by omega)], by rw [R _ (by omega) (by omega)]⟩) (Nat.le_refl _)
      show zXt _ J u (zu τ 3 m (V (t0 + 2))) Λ N sz
      unfold zXt
      rw [zfu (x := 0) (by decide), zfu (x := 1) (by decide), zfu (x := 2) (by decide), zfu (x := 4) (by decide), zfu (x := 5) (by decide), zfu (x := 6) (by decide), zfu (x := 7) (by decide), zfu (x := 8) (by decide)]
      refine ⟨x1, by rw [R u (by omega) (by omega)]; exact x2, fun m' hm => ?_, fun m i hm hi => ?_, fun i hi => ?_, by rw [R u (by omega) (by omega)]; exact hl x6, by rw [R _ (by omega) (by omega)]; exact x7⟩
      · obtain ⟨⟨y1, y1b, y1c, y1d⟩, y2, y3⟩ := x3 m' hm
        rw [R (u + 6) (by omega) (by omega), R (u + 7) (by omega) (by omega), R (u + 11) (by omega) (by omega), R (u + 8) (by omega) (by omega)]
        refine ⟨⟨y1, y1b, ?_, y1d⟩, y2, hl y3⟩
        by_cases e : m' = m
        · rw [e, zu_eq, zu_eq]
        · rw [zu_k e, zu_k e, R7 _ (by omega)]; exact y1c
      · rw [R _ (by omega) (by omega), R _ (by omega) (by omega)]; exact x4 m i hm hi
      · rw [R _ (by omega) (by omega), R _ (by omega) (by omega)]; exact x5 i hi
/-- the class reads a PILLAR -/
def zpPillar (K V : Nat → Nat) (t0 : Nat) (wo : Option (Nat × Nat)) (τ : Nat → Nat → Nat) (Λ : Nat → Option zLaw) (N : Nat → Nat) (cn : Nat) (C : Nat → Nat × Nat × Nat) : zPs :=
  ((if τ 0 4 = 6 then .error (2, t0) else ztk K 3 (ztk K 3 (zgn t0))), zwob V 0 10 (ztk K 3 (zgn t0)) (zwob V 0 10 (zgn t0) wo), zu (zu (zu τ 7 (τ 0 4) (V (t0 + 1))) 8 (τ 0 4) (V (t0 + 2))) 0 4 (τ 0 4 + 1), Λ, N, cn, C)
theorem C_pillar (hL : zLY Z t u) (hu : u = 3 ∨ u = 30) (hT : zTC I J K P V W) (hB : zTB K V W) (h : zCS I J u K P (.ok t0, wo, τ, Λ, N, cn, C)) (hk : K t0 = 133) :
    ∃ I', zE (d + 5) kX5_readPillar 0 [some (.ref 2), none, none] [] Z I J (none, Z, I', J) ∧ zfrT u I I' ∧ zCS I' J u K P (zpPillar K V t0 wo τ Λ N cn C) := by
  obtain ⟨h1, h2⟩ := h
  have ht := h1.1.1.1
  have u2 : u ≠ 2 := by omega
  obtain ⟨c1, sz, c2, c3⟩ := h2 t0 rfl
  dsimp only at c1 c3
  have hp6 := c3.1.2.1
  have e3 : I u 3 = nI (τ 0 4) := c3.2.1.2.2.2.2
  have e36 : I u 3 < 6 ↔ τ 0 4 < 6 := by rw [e3, show (6 : Int32) = nI 6 from rfl, zlt (by omega) (by decide)]
  by_cases hc : τ 0 4 = 6
  · have fl := C_fail (d := d + 4) (Z := Z) (J := J) hL h1.1.2.1 (x := nI 2) (y := I 2 5)
    rw [h1.1.2.2.2.2] at fl
    obtain ⟨I0, e0⟩ : ∃ I0 : zI, I0 = zu (zu I 2 6 (nI 2)) 2 1 (nI (P t0)) := ⟨_, rfl⟩
    have fF : zf2 [1, 3, 4, 5, 6] I I0 := by rw [e0]; exact (zf2.put (by decide)).tr (zf2.put (by decide))
    have hE0 : zCl I0 K P (.error (2, t0)) wo := by rw [e0]; exact ⟨zCt_fail (by decide), fun q => absurd q (by simp [zrok])⟩
    rw [← e0] at fl
    obtain ⟨I1, a1, b1, f1⟩ := C_takeL (d := d + 2) (J := J) hL (hT.f2 fF) hB (k := 133) (by decide) (by decide) hE0
    obtain ⟨v2, I3, a2, b2, f2, -⟩ := C_takeInt (d := d + 1) (J := J) hL ((hT.f2 fF).f2 f1) hB (a := 0) (b := 10) (by decide) (by decide) b1
    obtain ⟨v4, I5, a3, b3, f3, -⟩ := C_takeInt (d := d + 1) (J := J) hL (((hT.f2 fF).f2 f1).f2 f2) hB (a := 0) (b := 10) (by decide) (by decide) b2
    have ne := zCt.e0 b3.1
    refine ⟨I5, BX5_readPillar_0 hL ⟨fun q => absurd (e36.mp q) (by omega), fun _ => ⟨I0, by rw [h1.1.2.2.2.2]; exact fl, I1, a1, v2, I3, a2, v4, I5, a3, fun _ => rfl, fun q => absurd q ne⟩⟩, (((zfrT.f2 fF).tr (zfrT.f2 f1)).tr (zfrT.f2 f2)).tr (zfrT.f2 f3), ?_⟩
    unfold zpPillar
    rw [if_pos hc]
    exact ⟨zCl.err b3, fun t3 q => absurd q (by simp)⟩
  · obtain ⟨I1, a1, b1, f1⟩ := C_takeL (d := d + 2) (J := J) hL hT hB (k := 133) (by decide) (by decide) h1
    dsimp only at b1
    rw [ztk_eq hk] at b1
    obtain ⟨v2, I3, a2, b2, f2, g2⟩ := C_takeInt (d := d + 1) (J := J) hL (hT.f2 f1) hB (a := 0) (b := 10) (by decide) (by decide) b1
    obtain ⟨v4, I5, a3, b3, f3, g3⟩ := C_takeInt (d := d + 1) (J := J) hL ((hT.f2 f1).f2 f2) hB (a := 0) (b := 10) (by decide) (by decide) b2
    have R5 : ∀ a, a ≠ 2 → I5 a = I a := fun a p => by rw [f3.1 a p, f2.1 a p, f1.1 a p]
    unfold zpPillar
    rw [if_neg hc]
    cases hr : ztk K 3 (ztk K 3 (zgn t0)) with
    | error e =>
      rw [hr] at b3
      have ne := zCt.e0 b3.1
      exact ⟨I5, BX5_readPillar_0 hL ⟨fun _ => ⟨I1, a1, v2, I3, a2, v4, I5, a3, fun _ => rfl, fun q => absurd q ne⟩, fun q => absurd (e36.mpr (by omega)) q⟩, ((zfrT.f2 f1).tr (zfrT.f2 f2)).tr (zfrT.f2 f3), zCl.err b3, fun t3 q => absurd q (by simp)⟩
    | ok t3 =>
      rw [hr] at b3
      have e0 := b3.1.2.1
      obtain ⟨t2, e2, k2, -, q2⟩ := ztk_ok hr
      obtain ⟨t1, e1, k1, -, q1⟩ := ztk_ok e2
      obtain ⟨-, q0⟩ := zgn_ok e1
      have v2e := g2 t1 e1 k1
      have v4e := g3 t2 e2 k2
      obtain ⟨I6, e6⟩ : ∃ I6 : zI, I6 = zu (zu (zu I5 (u + 14) (τ 0 4) v2) (u + 15) (τ 0 4) v4) u 3 (nI (τ 0 4 + 1)) := ⟨_, rfl⟩
      have run : zE (d + 4) kX6_addPillar 0 [some (.ref u), some (.int v2), some (.int v4)] [] Z I5 J (none, Z, I6, J) := by
        refine BX6_addPillar_0 _ _ (ly_ux hL) (fun I7 e7 I8 e8 I9 e9 => ?_)
        have p0 : I5 u 3 = nI (τ 0 4) := by rw [R5 u u2]; exact e3
        rw [p0, zptI (by omega) (by decide)] at e7
        have p1 : I7 u 3 = nI (τ 0 4) := by rw [e7, zu_ne (by omega)]; exact p0
        rw [p1, zptI (by omega) (by decide), e7] at e8
        have p2 : I8 u 3 = nI (τ 0 4) := by rw [e8, zu_ne (by omega), zu_ne (by omega)]; exact p0
        rw [p2, zadd1, e8, ← e6] at e9
        rw [e9]
      have R : ∀ a, a ≠ 2 → a ≠ u → a ≠ u + 14 → a ≠ u + 15 → I6 a = I a := fun a p q1 q2 q3 => by rw [e6, zu_ne q1, zu_ne q3, zu_ne q2, R5 a p]
      have U : ∀ k, k ≠ 3 → I6 u k = I u k := fun k p => by rw [e6, zu_k p, zu_ne (by omega), zu_ne (by omega), R5 u u2]
      have r2 : I6 2 = I5 2 := by rw [e6, zu_ne (by omega), zu_ne (by omega), zu_ne (by omega)]
      refine ⟨I6, BX5_readPillar_0 hL ⟨fun _ => ⟨I1, a1, v2, I3, a2, v4, I5, a3, fun q => absurd e0 q, fun _ => ⟨I6, run, rfl⟩⟩, fun q => absurd (e36.mpr (by omega)) q⟩, fun a p _ q => R a p (by omega) (by omega) (by omega), b3.rw r2, fun t4 q4 => ?_⟩
      cases q4
      refine ⟨c1.same ?_ (fun a p q => R a (by omega) (by omega) (by omega) (by omega)) (by omega) (fun z => zwob_none (zwob_none z)), sz, by omega, ?_⟩
      · rw [r2, f3.2 12 (by decide), f2.2 12 (by decide), f1.2 12 (by decide)]
      · obtain ⟨x1, x2, x3, x4, x5, x6, x7⟩ := c3
        have hl : ∀ {s : Int32} {x : Option zLaw}, zLs I u sz s x → zLs I6 u sz s x := fun h => h.same (fun j _ => ⟨by rw [R _ (by omega) (by omega) (by omega) (by omega)], by rw [R _ (by omega) (by omega) (by omega) (by omega)]⟩) (Nat.le_refl _)
        have tx : ∀ x, x ≠ 0 → x ≠ 7 → x ≠ 8 → zu (zu (zu τ 7 (τ 0 4) (V (t0 + 1))) 8 (τ 0 4) (V (t0 + 2))) 0 4 (τ 0 4 + 1) x = τ x := fun x h0 h7 h8 => by rw [zu_ne h0, zu_ne h8, zu_ne h7]
        have t0x : ∀ k, k ≠ 4 → zu (zu (zu τ 7 (τ 0 4) (V (t0 + 1))) 8 (τ 0 4) (V (t0 + 2))) 0 4 (τ 0 4 + 1) 0 k = τ 0 k := fun k p => by rw [zu_k p, zu_ne (by decide), zu_ne (by decide)]
        unfold zXt
        dsimp only
        rw [t0x 0 (by decide), t0x 1 (by decide), t0x 2 (by decide), t0x 3 (by decide), zu_eq, tx 1 (by decide) (by decide) (by decide), tx 2 (by decide) (by decide) (by decide), tx 3 (by decide) (by decide) (by decide), tx 4 (by decide) (by decide) (by decide), tx 5 (by decide) (by decide) (by decide), tx 6 (by decide) (by decide) (by decide)]
        refine ⟨⟨x1.1, by omega, x1.2.2⟩, ⟨by rw [U 2 (by decide)]; exact x2.1, by rw [U 0 (by decide)]; exact x2.2.1, by rw [U 1 (by decide)]; exact x2.2.2.1, by rw [U 4 (by decide)]; exact x2.2.2.2.1, by rw [e6, zu_eq]⟩, fun m hm => ?_, fun m i hm hi => ?_, fun i hi => ?_, by rw [U 5 (by decide)]; exact hl x6, by rw [R _ (by omega) (by omega) (by omega) (by omega)]; exact x7⟩
        · obtain ⟨y1, y2, y3⟩ := x3 m hm
          rw [R _ (by omega) (by omega) (by omega) (by omega), R _ (by omega) (by omega) (by omega) (by omega), R _ (by omega) (by omega) (by omega) (by omega), R _ (by omega) (by omega) (by omega) (by omega), R (u + 8) (by omega) (by omega) (by omega) (by omega)]
          exact ⟨y1, y2, hl y3⟩
        · rw [R _ (by omega) (by omega) (by omega) (by omega), R _ (by omega) (by omega) (by omega) (by omega)]; exact x4 m i hm hi
        · have p14 : I6 (u + 14) i = if i = τ 0 4 then v2 else I5 (u + 14) i := by
            rw [e6, zu_ne (by omega), zu_ne (by omega)]
            by_cases e : i = τ 0 4
            · rw [e, zu_eq, if_pos rfl]
            · rw [zu_k e, if_neg e]
          have p15 : I6 (u + 15) i = if i = τ 0 4 then v4 else I5 (u + 15) i := by
            rw [e6, zu_ne (by omega)]
            by_cases e : i = τ 0 4
            · rw [e, zu_eq, if_pos rfl]
            · rw [zu_k e, zu_ne (by omega), if_neg e]
          rw [p14, p15, zu_ne (show (7 : Nat) ≠ 0 by decide), zu_ne (show (7 : Nat) ≠ 8 by decide), zu_ne (show (8 : Nat) ≠ 0 by decide)]
          by_cases e : i = τ 0 4
          · rw [if_pos e, if_pos e, e, zu_eq, zu_eq, v2e, v4e, q1, q0]
            exact ⟨rfl, rfl⟩
          · rw [if_neg e, if_neg e, zu_k e, zu_k e, zu_ne (show (8 : Nat) ≠ 7 by decide), R5 _ (by omega), R5 _ (by omega)]
            exact x5 i (by omega)
end
