/-! the class's reader: all that a text tells -/
def zsemi (K : Nat → Nat) (s : zPs) : zPs := (ztk K 59 s.1, s.2)
def ztell (K V W : Nat → Nat) (t0 : Nat) (s : Option (Nat × Nat) × (Nat → Nat → Nat) × (Nat → Option zLaw) × (Nat → Nat) × Nat × (Nat → Nat × Nat × Nat)) : zPs :=
  if K t0 = 128 then zsemi K (zpTown K V t0 s.1 s.2.1 s.2.2.1 s.2.2.2.1 s.2.2.2.2.1 s.2.2.2.2.2)
  else if K t0 = 129 then zsemi K (zpMan K V W t0 s.1 s.2.1 s.2.2.1 s.2.2.2.1 s.2.2.2.2.1 s.2.2.2.2.2)
  else if K t0 = 130 then zpGoes K V W t0 s.1 s.2.1 s.2.2.1 s.2.2.2.1 s.2.2.2.2.1 s.2.2.2.2.2
  else if K t0 = 131 then zpLong K V t0 s.1 s.2.1 s.2.2.1 s.2.2.2.1 s.2.2.2.2.1 s.2.2.2.2.2
  else if K t0 = 132 then zsemi K (zpErrand K V W t0 s.1 s.2.1 s.2.2.1 s.2.2.2.1 s.2.2.2.2.1 s.2.2.2.2.2)
  else if K t0 = 133 then zsemi K (zpPillar K V t0 s.1 s.2.1 s.2.2.1 s.2.2.2.1 s.2.2.2.2.1 s.2.2.2.2.2)
  else if K t0 = 134 then zsemi K (zpDye K V W t0 s.1 s.2.1 s.2.2.1 s.2.2.2.1 s.2.2.2.2.1 s.2.2.2.2.2)
  else if K t0 = 135 then zsemi K (zpSeed K V t0 s.1 s.2.1 s.2.2.1 s.2.2.2.1 s.2.2.2.2.1 s.2.2.2.2.2)
  else (.error (1, t0), s)
def ztls (K V W : Nat → Nat) : Nat → zPs → zPs
  | 0, s => s
  | f + 1, s => match s.1 with
    | .error _ => s
    | .ok t => if K t = 0 then s else ztls K V W f (ztell K V W t s.2)
section
variable {d : Nat} {Z : zZ} {I I' : zI} {J J' : zJ} {t u t0 sz T T' cn n : Nat} {K P V W N : Nat → Nat} {τ : Nat → Nat → Nat} {Λ : Nat → Option zLaw} {C : Nat → Nat × Nat × Nat} {wo wo' : Option (Nat × Nat)} {o : zO} {r : zRt} {s : zPs}
theorem C_semi (hL : zLY Z t u) (hu : u = 3 ∨ u = 30) (hT : zTC I J K P V W) (hB : zTB K V W) (h : zCS I J u K P s) : ∃ I', zE (d + 5) kX5_take 0 [some (.ref 2), some (.int 59)] [] Z I J (none, Z, I', J) ∧ zCS I' J u K P (zsemi K s) ∧ zfrT u I I' := by
  obtain ⟨I', a1, b1, f1⟩ := C_takeL (d := d + 3) (J := J) hL hT hB (k := 59) (by decide) (by decide) h.1
  refine ⟨I', a1, ⟨b1, fun t e => ?_⟩, zfrT.f2 f1⟩
  obtain ⟨t1, e1, -, -, q1⟩ := ztk_ok e
  obtain ⟨c1, sz, c2, c3⟩ := h.2 t1 e1
  exact ⟨c1.same (f1.2 12 (by decide)) (fun a p q => f1.1 a (by omega)) (by omega) id, sz, by omega, c3.same (fun a p q => f1.1 a (by omega)) rfl⟩
theorem zTC.mov (hu : u = 3 ∨ u = 30) (h : zTC I J K P V W) (hf : zfrT u I I') (hj : zfrJ u J J') : zTC I' J' K P V W := fun i hi hg => by
  rw [hf 21 (by decide) (by decide) (by omega), hf 22 (by decide) (by decide) (by omega), hf 23 (by decide) (by decide) (by omega), hj 24 (by omega)]
  exact h i hi hg
theorem zfrJ.rf : zfrJ u J J := fun _ _ => rfl
theorem zfrJ.tr {J'' : zJ} (h1 : zfrJ u J J') (h2 : zfrJ u J' J'') : zfrJ u J J'' := fun a p => (h2 a p).trans (h1 a p)
theorem C_tell1 (hL : zLY Z t u) (hu : u = 3 ∨ u = 30) (hT : zTC I J K P V W) (hB : zTB K V W) {i : Nat} (hi : i ≤ 400) (h : zCS I J u K P (.ok t0, wo, τ, Λ, N, cn, C)) (hk0 : K t0 ≠ 0) :
    ∃ I' J', (∀ o : zO, zE (d + 6) kX5_readTells 2 [some (.ref 2), some (.int (nI i + 1))] [] Z I' J' o → zE (d + 6) kX5_readTells 2 [some (.ref 2), some (.int (nI i))] [] Z I J o) ∧ zfrT u I I' ∧ zfrJ u J J' ∧ zCS I' J' u K P (ztell K V W t0 (wo, τ, Λ, N, cn, C)) := by
  have hK := hB.1 t0
  have h0 : I 2 6 = 0 := h.1.1.2.1
  have e4 : I 2 4 = nI (K t0) := h.1.1.2.2.2.1
  have n4 : ¬ 400 < nI i := by rw [show (400 : Int32) = nI 400 from rfl, zlt (by decide) (by omega)]; omega
  have nz : ¬ I 2 4 = 0 := by rw [e4]; exact nI_ne0 (by omega) (by omega)
  have no : ∀ c, c < 256 → K t0 ≠ c → ¬ I 2 4 = nI c := fun c hc hne q => hne (by rw [e4, zeq (by omega) (by omega)] at q; exact q)
  have rg : (I 2 4).toInt < 128 ∨ 135 < (I 2 4).toInt ↔ K t0 < 128 ∨ 135 < K t0 := by rw [e4, nI_toInt (by omega)]; omega
  unfold ztell
  by_cases k0 : K t0 = 128
  · rw [if_pos k0]
    obtain ⟨I2, v3, I4, v6, I7, a1, a2, a3, a4, a5⟩ := C_town (d := d) hL hu hT hB h k0
    obtain ⟨I8, s1, s2, s3⟩ := C_semi (d := d) hL hu (hT.mov hu a4 zfrJ.rf) hB a5
    exact ⟨I8, J, fun o k => BX5_readTells_2 _ hL ⟨fun q => absurd q n4, fun _ => ⟨fun q => absurd h0 q, fun _ => ⟨fun q => absurd q nz, fun _ => ⟨fun q => absurd (rg.mp q) (by omega), fun _ => ⟨I2, a1, v3, I4, a2, fun I5 e5 => ⟨v6, I7, by rw [e5]; exact a3, fun I9 e9 => by rw [e9]; exact BX5_readTells_250 _ hL ⟨I8, s1, k⟩⟩⟩, fun q => absurd q (no 129 (by decide) (by omega)), fun q => absurd q (no 130 (by decide) (by omega)), fun q => absurd q (no 131 (by decide) (by omega)), fun q => absurd q (no 132 (by decide) (by omega)), fun q => absurd q (no 133 (by decide) (by omega)), fun q => absurd q (no 134 (by decide) (by omega)), fun q => absurd q (no 135 (by decide) (by omega))⟩⟩⟩⟩, a4.tr s3, zfrJ.rf, s2⟩
  rw [if_neg k0]
  by_cases k1 : K t0 = 129
  · rw [if_pos k1]
    obtain ⟨I2, J2, a1, a2, a3, a4⟩ := C_readMan (d := d) hL hu hT hB h k1
    obtain ⟨I8, s1, s2, s3⟩ := C_semi (d := d) hL hu (hT.mov hu a2 a3) hB a4
    exact ⟨I8, J2, fun o k => BX5_readTells_2 _ hL ⟨fun q => absurd q n4, fun _ => ⟨fun q => absurd h0 q, fun _ => ⟨fun q => absurd q nz, fun _ => ⟨fun q => absurd (rg.mp q) (by omega), fun q => absurd q (no 128 (by decide) (by omega)), fun _ => ⟨I2, J2, a1, BX5_readTells_250 _ hL ⟨I8, s1, k⟩⟩, fun q => absurd q (no 130 (by decide) (by omega)), fun q => absurd q (no 131 (by decide) (by omega)), fun q => absurd q (no 132 (by decide) (by omega)), fun q => absurd q (no 133 (by decide) (by omega)), fun q => absurd q (no 134 (by decide) (by omega)), fun q => absurd q (no 135 (by decide) (by omega))⟩⟩⟩⟩, a2.tr s3, a3, s2⟩
  rw [if_neg k1]
  by_cases k2 : K t0 = 130
  · rw [if_pos k2]
    obtain ⟨I11, v12, I13, v14, I15, I17, a1, a2, a3, a4, a5, a6⟩ := C_goes (d := d) hL hu hT hB h k2
    exact ⟨I17, J, fun o k => BX5_readTells_2 _ hL ⟨fun q => absurd q n4, fun _ => ⟨fun q => absurd h0 q, fun _ => ⟨fun q => absurd q nz, fun _ => ⟨fun q => absurd (rg.mp q) (by omega), fun q => absurd q (no 128 (by decide) (by omega)), fun q => absurd q (no 129 (by decide) (by omega)), fun _ => ⟨I11, a1, v12, I13, a2, v14, I15, a3, fun I16 e16 => by rw [e16]; exact BX5_readTells_250 _ hL ⟨I17, a4, k⟩⟩, fun q => absurd q (no 131 (by decide) (by omega)), fun q => absurd q (no 132 (by decide) (by omega)), fun q => absurd q (no 133 (by decide) (by omega)), fun q => absurd q (no 134 (by decide) (by omega)), fun q => absurd q (no 135 (by decide) (by omega))⟩⟩⟩⟩, a5, zfrJ.rf, a6⟩
  rw [if_neg k2]
  by_cases k3 : K t0 = 131
  · rw [if_pos k3]
    obtain ⟨I13, v14, I15, I17, a1, a3, a4, a5, a6⟩ := C_long (d := d) hL hu hT hB h k3
    exact ⟨I17, J, fun o k => BX5_readTells_2 _ hL ⟨fun q => absurd q n4, fun _ => ⟨fun q => absurd h0 q, fun _ => ⟨fun q => absurd q nz, fun _ => ⟨fun q => absurd (rg.mp q) (by omega), fun q => absurd q (no 128 (by decide) (by omega)), fun q => absurd q (no 129 (by decide) (by omega)), fun q => absurd q (no 130 (by decide) (by omega)), fun _ => ⟨I13, a1, v14, I15, a3, fun I16 e16 => by rw [e16]; exact BX5_readTells_250 _ hL ⟨I17, a4, k⟩⟩, fun q => absurd q (no 132 (by decide) (by omega)), fun q => absurd q (no 133 (by decide) (by omega)), fun q => absurd q (no 134 (by decide) (by omega)), fun q => absurd q (no 135 (by decide) (by omega))⟩⟩⟩⟩, a5, zfrJ.rf, a6⟩
  rw [if_neg k3]
  by_cases k4 : K t0 = 132
  · rw [if_pos k4]
    obtain ⟨I2, a1, a2, a4⟩ := C_readErrand (d := d) hL hu hT hB h k4
    obtain ⟨I8, s1, s2, s3⟩ := C_semi (d := d) hL hu (hT.mov hu a2 zfrJ.rf) hB a4
    exact ⟨I8, J, fun o k => BX5_readTells_2 _ hL ⟨fun q => absurd q n4, fun _ => ⟨fun q => absurd h0 q, fun _ => ⟨fun q => absurd q nz, fun _ => ⟨fun q => absurd (rg.mp q) (by omega), fun q => absurd q (no 128 (by decide) (by omega)), fun q => absurd q (no 129 (by decide) (by omega)), fun q => absurd q (no 130 (by decide) (by omega)), fun q => absurd q (no 131 (by decide) (by omega)), fun _ => ⟨I2, a1, BX5_readTells_250 _ hL ⟨I8, s1, k⟩⟩, fun q => absurd q (no 133 (by decide) (by omega)), fun q => absurd q (no 134 (by decide) (by omega)), fun q => absurd q (no 135 (by decide) (by omega))⟩⟩⟩⟩, a2.tr s3, zfrJ.rf, s2⟩
  rw [if_neg k4]
  by_cases k5 : K t0 = 133
  · rw [if_pos k5]
    obtain ⟨I2, a1, a2, a4⟩ := C_pillar (d := d) hL hu hT hB h k5
    obtain ⟨I8, s1, s2, s3⟩ := C_semi (d := d) hL hu (hT.mov hu a2 zfrJ.rf) hB a4
    exact ⟨I8, J, fun o k => BX5_readTells_2 _ hL ⟨fun q => absurd q n4, fun _ => ⟨fun q => absurd h0 q, fun _ => ⟨fun q => absurd q nz, fun _ => ⟨fun q => absurd (rg.mp q) (by omega), fun q => absurd q (no 128 (by decide) (by omega)), fun q => absurd q (no 129 (by decide) (by omega)), fun q => absurd q (no 130 (by decide) (by omega)), fun q => absurd q (no 131 (by decide) (by omega)), fun q => absurd q (no 132 (by decide) (by omega)), fun _ => ⟨I2, a1, BX5_readTells_250 _ hL ⟨I8, s1, k⟩⟩, fun q => absurd q (no 134 (by decide) (by omega)), fun q => absurd q (no 135 (by decide) (by omega))⟩⟩⟩⟩, a2.tr s3, zfrJ.rf, s2⟩
  rw [if_neg k5]
  by_cases k6 : K t0 = 134
  · rw [if_pos k6]
    obtain ⟨I2, v3, I4, v6, I7, a1, a2, a3, a4, a5⟩ := C_dye (d := d) hL hu hT hB h k6
    obtain ⟨I8, s1, s2, s3⟩ := C_semi (d := d) hL hu (hT.mov hu a4 zfrJ.rf) hB a5
    exact ⟨I8, J, fun o k => BX5_readTells_2 _ hL ⟨fun q => absurd q n4, fun _ => ⟨fun q => absurd h0 q, fun _ => ⟨fun q => absurd q nz, fun _ => ⟨fun q => absurd (rg.mp q) (by omega), fun q => absurd q (no 128 (by decide) (by omega)), fun q => absurd q (no 129 (by decide) (by omega)), fun q => absurd q (no 130 (by decide) (by omega)), fun q => absurd q (no 131 (by decide) (by omega)), fun q => absurd q (no 132 (by decide) (by omega)), fun q => absurd q (no 133 (by decide) (by omega)), fun _ => ⟨I2, a1, v3, I4, a2, v6, I7, a3, fun I9 e9 => by rw [e9]; exact BX5_readTells_250 _ hL ⟨I8, s1, k⟩⟩, fun q => absurd q (no 135 (by decide) (by omega))⟩⟩⟩⟩, a4.tr s3, zfrJ.rf, s2⟩
  rw [if_neg k6]
  by_cases k7 : K t0 = 135
  · rw [if_pos k7]
    obtain ⟨I2, v3, I4, a1, a2, a4, a5⟩ := C_seed (d := d) hL hu hT hB h k7
    obtain ⟨I8, s1, s2, s3⟩ := C_semi (d := d) hL hu (hT.mov hu a4 zfrJ.rf) hB a5
    exact ⟨I8, J, fun o k => BX5_readTells_2 _ hL ⟨fun q => absurd q n4, fun _ => ⟨fun q => absurd h0 q, fun _ => ⟨fun q => absurd q nz, fun _ => ⟨fun q => absurd (rg.mp q) (by omega), fun q => absurd q (no 128 (by decide) (by omega)), fun q => absurd q (no 129 (by decide) (by omega)), fun q => absurd q (no 130 (by decide) (by omega)), fun q => absurd q (no 131 (by decide) (by omega)), fun q => absurd q (no 132 (by decide) (by omega)), fun q => absurd q (no 133 (by decide) (by omega)), fun q => absurd q (no 134 (by decide) (by omega)), fun _ => ⟨I2, a1, v3, I4, a2, fun I9 e9 => by rw [e9]; exact BX5_readTells_250 _ hL ⟨I8, s1, k⟩⟩⟩⟩⟩⟩, a4.tr s3, zfrJ.rf, s2⟩
  rw [if_neg k7]
  have fl := C_fail (d := d + 5) (Z := Z) (J := J) hL h0 (x := nI 1) (y := I 2 5)
  rw [h.1.1.2.2.2.2] at fl
  have fF : zf2 [1, 3, 4, 5, 6] I (zu (zu I 2 6 (nI 1)) 2 1 (nI (P t0))) := (zf2.put (by decide)).tr (zf2.put (by decide))
  have hE0 : zCt (zu (zu I 2 6 (nI 1)) 2 1 (nI (P t0))) K P (.error (1, t0)) := zCt_fail (by decide)
  obtain ⟨I8, s1, s2, s3⟩ := C_take (d := d + 3) (J := J) hL (hT.f2 fF) hB (k := 59) (by decide) (by decide) hE0
  exact ⟨I8, J, fun o k => BX5_readTells_2 _ hL ⟨fun q => absurd q n4, fun _ => ⟨fun q => absurd h0 q, fun _ => ⟨fun q => absurd q nz, fun _ => ⟨fun _ => ⟨_, by rw [h.1.1.2.2.2.2]; exact fl, BX5_readTells_250 _ hL ⟨I8, s1, k⟩⟩, fun q => absurd q (no 128 (by decide) (by omega)), fun q => absurd q (no 129 (by decide) (by omega)), fun q => absurd q (no 130 (by decide) (by omega)), fun q => absurd q (no 131 (by decide) (by omega)), fun q => absurd q (no 132 (by decide) (by omega)), fun q => absurd q (no 133 (by decide) (by omega)), fun q => absurd q (no 134 (by decide) (by omega)), fun q => absurd q (no 135 (by decide) (by omega))⟩⟩⟩⟩, (zfrT.f2 fF).tr (zfrT.f2 s3), zfrJ.rf, ⟨s2, fun q => absurd q (by simp [zrok])⟩, fun t3 q => absurd q (by simp)⟩
theorem C_tells (hL : zLY Z t u) (hu : u = 3 ∨ u = 30) (hB : zTB K V W) : ∀ (f i : Nat) (s : zPs) (I : zI) (J : zJ), i + f = 401 → zTC I J K P V W → zCS I J u K P s → ∃ I' J', zE (d + 6) kX5_readTells 2 [some (.ref 2), some (.int (nI i))] [] Z I J (none, Z, I', J') ∧ zfrT u I I' ∧ zfrJ u J J' ∧ zCS I' J' u K P (ztls K V W f s) := by
  intro f
  induction f with
  | zero =>
    intro i s I J hi hT h
    obtain rfl : i = 401 := by omega
    exact ⟨I, J, BX5_readTells_2 _ hL ⟨fun _ => rfl, fun q => absurd (by decide) q⟩, fun _ _ _ _ => rfl, zfrJ.rf, h⟩
  | succ f ih =>
    intro i s I J hi hT h
    have n4 : ¬ 400 < nI i := by rw [show (400 : Int32) = nI 400 from rfl, zlt (by decide) (by omega)]; omega
    obtain ⟨r, wo, τ, Λ, N, cn, C⟩ := s
    cases r with
    | error e =>
      have ne := zCt.e0 h.1.1
      exact ⟨I, J, BX5_readTells_2 _ hL ⟨fun q => absurd q n4, fun _ => ⟨fun _ => rfl, fun q => absurd q ne⟩⟩, fun _ _ _ _ => rfl, zfrJ.rf, h⟩
    | ok t0 =>
      have h0 : I 2 6 = 0 := h.1.1.2.1
      have e4 : I 2 4 = nI (K t0) := h.1.1.2.2.2.1
      simp only [ztls]
      by_cases hk : K t0 = 0
      · rw [if_pos hk]
        exact ⟨I, J, BX5_readTells_2 _ hL ⟨fun q => absurd q n4, fun _ => ⟨fun q => absurd h0 q, fun _ => ⟨fun _ => rfl, fun q => absurd (by rw [e4, hk]; rfl) q⟩⟩⟩, fun _ _ _ _ => rfl, zfrJ.rf, h⟩
      · rw [if_neg hk]
        obtain ⟨I1, J1, a1, a2, a3, a4⟩ := C_tell1 (d := d) hL hu hT hB (i := i) (by omega) h hk
        obtain ⟨I2, J2, b1, b2, b3, b4⟩ := ih (i + 1) _ I1 J1 (by omega) (hT.mov hu a2 a3) a4
        exact ⟨I2, J2, a1 _ (by rw [zadd1]; exact b1), a2.tr b2, a3.tr b3, b4⟩
end
