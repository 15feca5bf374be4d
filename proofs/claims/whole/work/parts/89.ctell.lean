/-! the class's reader: what a text tells so far; TOWN, SEED, PILLAR, DYE -/
/-- a LAW of the class's, ahead of sz -/
def zLs (I : zI) (u sz : Nat) (s : Int32) (o : Option zLaw) : Prop := match o with
  | none => s = -1
  | some w => zlwOK w ∧ ∃ c, s = nI c ∧ c + zcln w.1 w.2 ≤ sz ∧ zclw (I (u + 1 + 1)) (I (u + 1 + 2)) c w.1 w.2
def zXt (I : zI) (J : zJ) (u : Nat) (τ : Nat → Nat → Nat) (Λ : Nat → Option zLaw) (N : Nat → Nat) (sz : Nat) : Prop :=
  (τ 0 0 ≤ 7 ∧ τ 0 4 ≤ 6 ∧ ∀ m, m < τ 0 0 → τ 4 m ≤ 6 ∧ N m < 2 ^ 40) ∧
  (I u 2 = nI (τ 0 0) ∧ I u 0 = nI (τ 0 1) ∧ I u 1 = nI (τ 0 2) ∧ I u 4 = nI (τ 0 3) ∧ I u 3 = nI (τ 0 4)) ∧
  (∀ m, m < τ 0 0 → (I (u + 6) m = nI (τ 1 m) ∧ I (u + 7) m = nI (τ 2 m) ∧ I (u + 10) m = nI (τ 3 m) ∧ I (u + 11) m = nI (τ 4 m)) ∧ J (u + 16) m = lN (N m) ∧ zLs I u sz (I (u + 8) m) (Λ m)) ∧
  (∀ m i, m < τ 0 0 → i < τ 4 m → I (u + 12) (6 * m + i) = nI (τ 5 (6 * m + i)) ∧ I (u + 13) (6 * m + i) = nI (τ 6 (6 * m + i))) ∧
  (∀ i, i < τ 0 4 → I (u + 14) i = nI (τ 7 i) ∧ I (u + 15) i = nI (τ 8 i)) ∧ zLs I u sz (I u 5) (Λ 7) ∧ I (u + 1) 0 = nI sz
/-- the corners, as long as no later FAULT stands -/
def zCo (I : zI) (P : Nat → Nat) (T : Nat) (wo : Option (Nat × Nat)) (cn : Nat) (C : Nat → Nat × Nat × Nat) : Prop := ∃ cc, cc ≤ T ∧ I 2 12 = nI cc ∧ (wo = none → cc = cn ∧ ∀ i, i < cn → I 26 i = nI (P (C i).2.2) ∧ I 27 i = nI (C i).1 ∧ I 28 i = nI (C i).2.1)
def zTt (I : zI) (J : zJ) (u : Nat) (P : Nat → Nat) (T : Nat) (wo : Option (Nat × Nat)) (τ : Nat → Nat → Nat) (Λ : Nat → Option zLaw) (N : Nat → Nat) (cn : Nat) (C : Nat → Nat × Nat × Nat) : Prop := zCo I P T wo cn C ∧ ∃ sz, sz ≤ T ∧ zXt I J u τ Λ N sz
abbrev zPs : Type := zRt × Option (Nat × Nat) × (Nat → Nat → Nat) × (Nat → Option zLaw) × (Nat → Nat) × Nat × (Nat → Nat × Nat × Nat)
/-- what the class's reader may write -/
def zfrT (u : Nat) (I I' : zI) : Prop := ∀ a, a ≠ 2 → ¬ (26 ≤ a ∧ a ≤ 29) → ¬ (u ≤ a ∧ a ≤ u + 16) → I' a = I a
def zfrJ (u : Nat) (J J' : zJ) : Prop := ∀ a, a ≠ u + 16 → J' a = J a
/-- where the class's reader stands, and what it has read -/
def zCS (I : zI) (J : zJ) (u : Nat) (K P : Nat → Nat) (s : zPs) : Prop := zCl I K P s.1 s.2.1 ∧ ∀ t, s.1 = .ok t → zTt I J u P t s.2.1 s.2.2.1 s.2.2.2.1 s.2.2.2.2.1 s.2.2.2.2.2.1 s.2.2.2.2.2.2
theorem zwq_none {wo : Option (Nat × Nat)} {b : Bool} {q : Nat × Nat} (h : zwq wo b q = none) : wo = none ∧ b = false := by
  cases wo with
  | none => cases b with
    | false => exact ⟨rfl, rfl⟩
    | true => exact absurd h (by simp [zwq])
  | some x => exact absurd h (by simp [zwq])
theorem zwob_none {V : Nat → Nat} {a b : Nat} {r : zRt} {wo : Option (Nat × Nat)} (h : zwob V a b r wo = none) : wo = none := by
  cases r with
  | error e => exact h
  | ok t => exact (zwq_none h).1
theorem zwom_none {W N : Nat → Nat} {n k : Nat} {c : Bool} {r : zRt} {wo : Option (Nat × Nat)} (h : zwom W N n k c r wo = none) : wo = none := by
  cases r with
  | error e => exact h
  | ok t => exact (zwq_none h).1
section
variable {d : Nat} {Z : zZ} {I I' : zI} {J J' : zJ} {t u t0 sz T T' cn : Nat} {K P V W N : Nat → Nat} {τ : Nat → Nat → Nat} {Λ : Nat → Option zLaw} {C : Nat → Nat × Nat × Nat} {wo wo' : Option (Nat × Nat)} {o : zO} {r : zRt}
theorem zfrT.tr {I'' : zI} (h1 : zfrT u I I') (h2 : zfrT u I' I'') : zfrT u I I'' := fun a p q s => (h2 a p q s).trans (h1 a p q s)
theorem zfrT.f2 {F : List Nat} (h : zf2 F I I') : zfrT u I I' := fun a p _ _ => h.1 a p
theorem zfrT.put (hu : u = 3 ∨ u = 30) {a k : Nat} {v : Int32} (ha : u ≤ a ∧ a ≤ u + 16 ∨ 26 ≤ a ∧ a ≤ 29) : zfrT u I (zu I a k v) := fun b _ q s => zu_ne (fun e => by subst e; omega)
theorem zLs.same {s : Int32} {x : Option zLaw} (h : zLs I u sz s x) (h1 : ∀ j, j < sz → I' (u + 1 + 1) j = I (u + 1 + 1) j ∧ I' (u + 1 + 2) j = I (u + 1 + 2) j) {sz' : Nat} (hs : sz ≤ sz') : zLs I' u sz' s x := by
  cases x with
  | none => exact h
  | some w =>
    obtain ⟨h0, c, e1, e2, e3⟩ := h
    exact ⟨h0, c, e1, by omega, zclw_agree _ _ _ (fun j p q => h1 j (by omega)) e3⟩
theorem zXt.same (h : zXt I J u τ Λ N sz) (h1 : ∀ a, u ≤ a → a ≤ u + 16 → I' a = I a) (h2 : J' (u + 16) = J (u + 16)) : zXt I' J' u τ Λ N sz := by
  obtain ⟨a1, a2, a3, a4, a5, a6, a7⟩ := h
  have hl : ∀ {s : Int32} {x : Option zLaw}, zLs I u sz s x → zLs I' u sz s x := fun h => h.same (fun j _ => ⟨by rw [h1 _ (by omega) (by omega)], by rw [h1 _ (by omega) (by omega)]⟩) (Nat.le_refl _)
  refine ⟨a1, by rw [h1 u (by omega) (by omega)]; exact a2, fun m hm => ?_, fun m i hm hi => ?_, fun i hi => ?_, by rw [h1 u (by omega) (by omega)]; exact hl a6, by rw [h1 _ (by omega) (by omega)]; exact a7⟩
  · obtain ⟨b1, b2, b3⟩ := a3 m hm
    rw [h1 _ (show u ≤ u + 6 by omega) (by omega), h1 _ (show u ≤ u + 7 by omega) (by omega), h1 _ (show u ≤ u + 10 by omega) (by omega), h1 _ (show u ≤ u + 11 by omega) (by omega), h1 _ (show u ≤ u + 8 by omega) (by omega), h2]
    exact ⟨b1, b2, hl b3⟩
  · rw [h1 _ (show u ≤ u + 12 by omega) (by omega), h1 _ (show u ≤ u + 13 by omega) (by omega)]; exact a4 m i hm hi
  · rw [h1 _ (show u ≤ u + 14 by omega) (by omega), h1 _ (show u ≤ u + 15 by omega) (by omega)]; exact a5 i hi
theorem zCo.same (h : zCo I P T wo cn C) (h1 : I' 2 12 = I 2 12) (h2 : ∀ a, 26 ≤ a → a ≤ 28 → I' a = I a) (hT : T ≤ T') (hw : wo' = none → wo = none) : zCo I' P T' wo' cn C := by
  obtain ⟨cc, e1, e2, e3⟩ := h
  refine ⟨cc, by omega, h1.trans e2, fun z => ?_⟩
  rw [h2 26 (by decide) (by decide), h2 27 (by decide) (by decide), h2 28 (by decide) (by decide)]
  exact e3 (hw z)
theorem zXt.nm (h : zXt I J u τ Λ N sz) : zNm I J u (τ 0 0) N := ⟨h.1.1, h.2.1.1, fun m hm => ⟨(h.2.2.1 m hm).2.1, (h.1.2.2 m hm).2⟩⟩
abbrev zF8 : List Nat := [1, 3, 4, 5, 6, 7, 8]
theorem zfu {τ : Nat → Nat → Nat} {a k v : Nat} {x : Nat} (h : x ≠ a) : zu τ a k v x = τ x := zu_ne h
/-- the class reads a TOWN -/
def zpTown (K V : Nat → Nat) (t0 : Nat) (wo : Option (Nat × Nat)) (τ : Nat → Nat → Nat) (Λ : Nat → Option zLaw) (N : Nat → Nat) (cn : Nat) (C : Nat → Nat × Nat × Nat) : zPs :=
  (ztk K 3 (ztk K 3 (zgn t0)), zwob V 2 12 (ztk K 3 (zgn t0)) (zwob V 2 12 (zgn t0) wo), zu (zu τ 0 1 (V (t0 + 1))) 0 2 (V (t0 + 2)), Λ, N, cn, C)
theorem C_town (hL : zLY Z t u) (hu : u = 3 ∨ u = 30) (hT : zTC I J K P V W) (hB : zTB K V W) (h : zCS I J u K P (.ok t0, wo, τ, Λ, N, cn, C)) (hk : K t0 = 128) :
    ∃ I2 v3 I4 v6 I7, zE (d + 5) kX5_take 0 [some (.ref 2), some (.int (I 2 4))] [] Z I J (none, Z, I2, J) ∧ zE (d + 5) kX5_takeInt 0 [some (.ref 2), some (.int 2), some (.int 12), none, none] [] Z I2 J (some (.int v3), Z, I4, J) ∧ zE (d + 5) kX5_takeInt 0 [some (.ref 2), some (.int 2), some (.int 12), none, none] [] Z (zu I4 u 0 v3) J (some (.int v6), Z, I7, J) ∧ zfrT u I (zu I7 u 1 v6) ∧ zCS (zu I7 u 1 v6) J u K P (zpTown K V t0 wo τ Λ N cn C) := by
  obtain ⟨h1, h2⟩ := h
  have ht := h1.1.1.1
  have e4 : I 2 4 = nI 128 := by rw [h1.1.2.2.2.1, hk]
  obtain ⟨I2, a1, b1, f1⟩ := C_takeL (d := d + 3) (J := J) hL hT hB (k := 128) (by decide) (by decide) h1
  have ek : ztk K 128 (.ok t0) = zgn t0 := by unfold ztk; dsimp only; rw [if_pos hk]
  dsimp only at b1
  rw [ek] at b1
  obtain ⟨v3, I4, a2, b2, f2, g2⟩ := C_takeInt (d := d + 2) (J := J) hL (hT.f2 f1) hB (a := 2) (b := 12) (by decide) (by decide) b1
  have u2 : u ≠ 2 := by omega
  have b2' : zCl (zu I4 u 0 v3) K P (ztk K 3 (zgn t0)) (zwob V 2 12 (zgn t0) wo) := ⟨b2.1.rw (zu_ne (fun e => u2 e.symm)), fun q => by
    have := b2.2 q
    cases hw : zwob V 2 12 (zgn t0) wo with
    | none => rw [hw] at this; exact (congrFun (zu_ne (fun e => u2 e.symm)) 7).trans this
    | some x => rw [hw] at this; exact ⟨this.1, (congrFun (zu_ne (fun e => u2 e.symm)) 7).trans this.2.1, (congrFun (zu_ne (fun e => u2 e.symm)) 8).trans this.2.2⟩⟩
  have T4 : zTC (zu I4 u 0 v3) J K P V W := ((hT.f2 f1).f2 f2).same (fun a p q => zu_ne (by omega))
  obtain ⟨v6, I7, a3, b3, f3, g3⟩ := C_takeInt (d := d + 2) (J := J) hL T4 hB (a := 2) (b := 12) (by decide) (by decide) b2'
  have b3' : zCl (zu I7 u 1 v6) K P (ztk K 3 (ztk K 3 (zgn t0))) (zwob V 2 12 (ztk K 3 (zgn t0)) (zwob V 2 12 (zgn t0) wo)) := ⟨b3.1.rw (zu_ne (fun e => u2 e.symm)), fun q => by
    have := b3.2 q
    cases hw : zwob V 2 12 (ztk K 3 (zgn t0)) (zwob V 2 12 (zgn t0) wo) with
    | none => rw [hw] at this; exact (congrFun (zu_ne (fun e => u2 e.symm)) 7).trans this
    | some x => rw [hw] at this; exact ⟨this.1, (congrFun (zu_ne (fun e => u2 e.symm)) 7).trans this.2.1, (congrFun (zu_ne (fun e => u2 e.symm)) 8).trans this.2.2⟩⟩
  refine ⟨I2, v3, I4, v6, I7, by rw [e4]; exact a1, a2, a3, (((zfrT.f2 f1).tr (zfrT.f2 f2)).tr (zfrT.put hu (Or.inl ⟨by omega, by omega⟩))).tr ((zfrT.f2 f3).tr (zfrT.put hu (Or.inl ⟨by omega, by omega⟩))), b3', fun t3 e3 => ?_⟩
  obtain ⟨t2, e2, k2, -, q2⟩ := ztk_ok e3
  obtain ⟨t1, e1, k1, -, q1⟩ := ztk_ok e2
  obtain ⟨-, q0⟩ := zgn_ok e1
  have v3e := g2 t1 e1 k1
  have v6e := g3 t2 e2 k2
  obtain ⟨c1, sz, c2, c3⟩ := h2 t0 rfl
  have R : ∀ a, a ≠ 2 → a ≠ u → zu I7 u 1 v6 a = I a := fun a p q => by rw [zu_ne q, f3.1 a p, zu_ne q, f2.1 a p, f1.1 a p]
  have U : ∀ k, k ≠ 0 → k ≠ 1 → zu I7 u 1 v6 u k = I u k := fun k p q => by rw [zu_k q, f3.1 u u2, zu_k p, f2.1 u u2, f1.1 u u2]
  refine ⟨c1.same ?_ (fun a p q => R a (by omega) (by omega)) (by omega) (fun z => zwob_none (zwob_none z)), sz, by omega, ?_⟩
  · rw [zu_ne (fun e => u2 e.symm), f3.2 12 (by decide), zu_ne (fun e => u2 e.symm), f2.2 12 (by decide), f1.2 12 (by decide)]
  · obtain ⟨x1, x2, x3, x4, x5, x6, x7⟩ := c3
    have hl : ∀ {s : Int32} {x : Option zLaw}, zLs I u sz s x → zLs (zu I7 u 1 v6) u sz s x := fun h => h.same (fun j _ => ⟨by rw [R _ (by omega) (by omega)], by rw [R _ (by omega) (by omega)]⟩) (Nat.le_refl _)
    have t00 : zu (zu τ 0 1 (V (t0 + 1))) 0 2 (V (t0 + 2)) 0 0 = τ 0 0 := by rw [zu_k (by decide), zu_k (by decide)]
    have t04 : zu (zu τ 0 1 (V (t0 + 1))) 0 2 (V (t0 + 2)) 0 4 = τ 0 4 := by rw [zu_k (by decide), zu_k (by decide)]
    have tx : ∀ x, x ≠ 0 → zu (zu τ 0 1 (V (t0 + 1))) 0 2 (V (t0 + 2)) x = τ x := fun x hx => by rw [zu_ne hx, zu_ne hx]
    unfold zXt
    dsimp only [zpTown]
    rw [t00, t04, tx 1 (by decide), tx 2 (by decide), tx 3 (by decide), tx 4 (by decide), tx 5 (by decide), tx 6 (by decide), tx 7 (by decide), tx 8 (by decide)]
    refine ⟨x1, ⟨by rw [U 2 (by decide) (by decide)]; exact x2.1, ?_, ?_, by rw [U 4 (by decide) (by decide), zu_k (by decide), zu_k (by decide)]; exact x2.2.2.2.1, by rw [U 3 (by decide) (by decide)]; exact x2.2.2.2.2⟩, fun m hm => ?_, fun m i hm hi => ?_, fun i hi => ?_, by rw [U 5 (by decide) (by decide)]; exact hl x6, by rw [R _ (by omega) (by omega)]; exact x7⟩
    · rw [zu_k (by decide), f3.1 u u2, zu_eq, v3e, zu_k (by decide), zu_eq, q0]
    · rw [zu_eq, v6e, zu_eq, q1, q0]
    · obtain ⟨y1, y2, y3⟩ := x3 m hm
      rw [R _ (by omega) (by omega), R _ (by omega) (by omega), R _ (by omega) (by omega), R _ (by omega) (by omega), R (u + 8) (by omega) (by omega)]
      exact ⟨y1, y2, hl y3⟩
    · rw [R _ (by omega) (by omega), R _ (by omega) (by omega)]; exact x4 m i hm hi
    · rw [R _ (by omega) (by omega), R _ (by omega) (by omega)]; exact x5 i hi
end
