/-! the class reads, all of it -/
def zGl (τ : Nat → Nat → Nat) (Λ : Nat → Option zLaw) : Prop := ∀ m, m ≠ 7 → τ 0 0 ≤ m → Λ m = none
section
variable {K V W : Nat → Nat} {t0 : Nat} {wo : Option (Nat × Nat)} {τ τ' : Nat → Nat → Nat} {Λ : Nat → Option zLaw} {N : Nat → Nat} {cn : Nat} {C : Nat → Nat × Nat × Nat}
theorem zGl.e (h : zGl τ Λ) (h0 : τ' 0 0 = τ 0 0) : zGl τ' Λ := fun m p q => h m p (by omega)
theorem zGl.set (h : zGl τ Λ) {o : Option Nat} {res : Except (Nat × Nat) (Nat × zLaw)} (ho : ∀ m, o = some m → m < τ 0 0 ∨ m = 7) : zGl τ (zlset Λ o res) := fun k p q => by
  cases o with
  | none => exact h k p q
  | some m => cases res with
    | error e => exact h k p q
    | ok x =>
      show (if k = m then some x.2 else Λ k) = none
      rw [if_neg (by have := ho m rfl; omega)]
      exact h k p q
theorem zGl_tell {s : Option (Nat × Nat) × (Nat → Nat → Nat) × (Nat → Option zLaw) × (Nat → Nat) × Nat × (Nat → Nat × Nat × Nat)} (h : zGl s.2.1 s.2.2.1) : zGl (ztell K V W t0 s).2.2.1 (ztell K V W t0 s).2.2.2.1 := by
  obtain ⟨wo, τ, Λ, N, cn, C⟩ := s
  dsimp only at h
  have hf : ∀ {x : Nat} (m : Nat), zfnd N x (τ 0 0) 0 = some m → m < τ 0 0 ∨ m = 7 := fun m e => Or.inl (by have := (zfnd_lt _ _ _ e).2.1; omega)
  unfold ztell
  split
  · refine zGl.e h ?_
    show (zu (zu τ 0 1 (V (t0 + 1))) 0 2 (V (t0 + 2))) 0 0 = τ 0 0
    rw [zu_k (by decide), zu_k (by decide)]
  · split
    · intro m p q
      have q' : (zu (zu (zu (zu (zu τ 1 (τ 0 0) (V (t0 + 2))) 2 (τ 0 0) (V (t0 + 3))) 3 (τ 0 0) 0) 4 (τ 0 0) 0) 0 0 (τ 0 0 + 1)) 0 0 ≤ m := q
      rw [zu_eq] at q'
      show (if m = τ 0 0 then none else Λ m) = none
      rw [if_neg (by omega)]
      exact h m p (by omega)
    · split
      · exact zGl.set h hf
      · split
        · exact zGl.set h (fun m e => Or.inr (by cases e; rfl))
        · split
          · refine zGl.e h ?_
            show (match zmE K W N (τ 0 0) t0 with | none => τ | some m => zu (zu (zu τ 5 (6 * m + τ 4 m) (V (t0 + 2))) 6 (6 * m + τ 4 m) (V (t0 + 3))) 4 m (τ 4 m + 1)) 0 0 = τ 0 0
            cases zmE K W N (τ 0 0) t0 with
            | none => rfl
            | some m => dsimp only; rw [zu_ne (by decide), zu_ne (by decide), zu_ne (by decide)]
          · split
            · refine zGl.e h ?_
              show (zu (zu (zu τ 7 (τ 0 4) (V (t0 + 1))) 8 (τ 0 4) (V (t0 + 2))) 0 4 (τ 0 4 + 1)) 0 0 = τ 0 0
              rw [zu_k (by decide), zu_ne (by decide), zu_ne (by decide)]
            · split
              · refine zGl.e h ?_
                show (match zfnd N (W (t0 + 1)) (τ 0 0) 0 with | none => τ | some m => zu τ 3 m (V (t0 + 2))) 0 0 = τ 0 0
                cases zfnd N (W (t0 + 1)) (τ 0 0) 0 with
                | none => rfl
                | some m => dsimp only; rw [zu_ne (by decide)]
              · split
                · refine zGl.e h ?_
                  show (zu τ 0 3 (V (t0 + 1))) 0 0 = τ 0 0
                  rw [zu_k (by decide)]
                · exact h
theorem zGl_ls : ∀ (f : Nat) (s : zPs), zGl s.2.2.1 s.2.2.2.1 → zGl (ztls K V W f s).2.2.1 (ztls K V W f s).2.2.2.1 := by
  intro f
  induction f with
  | zero => intro s h; exact h
  | succ f ih =>
    intro s h
    obtain ⟨r, s⟩ := s
    cases r with
    | error e => exact h
    | ok t =>
      simp only [ztls]
      split
      · exact h
      · exact ih _ (zGl_tell h)
end
section
variable {d : Nat} {Z : zZ} {I I' : zI} {J J' : zJ} {t u L : Nat} {B DX DY ρ : Nat → Nat} {C : Nat → Nat × Nat × Nat}
/-- what a text of bytes tells -/
def zrdS (B : Nat → Nat) (L : Nat) : zPs := ztls (zknd B L) (zvlu B L) (znam B L) 401 (zps0 fun _ => (0, 0, 0))
theorem zrd_G : zGs (zrdS B L) := zGs_ls _ _ zGs_0
theorem zrd_l : zGl (zrdS B L).2.2.1 (zrdS B L).2.2.2.1 := zGl_ls _ _ (fun _ _ _ => rfl)
theorem zfin_ok {s : zPs} {t1 : Nat} (h : zfin s = .ok t1) : s.1 = .ok t1 := by
  obtain ⟨r, wo, τ, Λ, N, cn, C⟩ := s
  unfold zfin at h
  cases r with
  | error e => exact absurd h (by simp)
  | ok t =>
    cases wo with
    | some q => exact absurd h (by simp)
    | none =>
      dsimp only at h ⊢
      cases ho : zfoc (τ 0 1) (τ 0 2) C cn 0 with
      | some tk => rw [ho] at h; exact absurd h (by simp)
      | none => rw [ho] at h; exact h
theorem zrd_W {K P : Nat → Nat} {t1 : Nat} (h : zfin (zrdS B L) = .ok t1) (hS : zCS I J u K P (zrdS B L)) : zTW (zt9 (zrdS B L).2.2.1 (zrdS B L).2.2.2.1) (zrdS B L).2.2.2.1 := by
  obtain ⟨-, sz, -, hx⟩ := hS.2 t1 (zfin_ok h)
  refine zTW_fin h zrd_G ⟨hx.1.1, hx.1.2.1⟩ (fun m w hm hw => ?_) zrd_l
  rcases hm with hm | rfl
  · have := (hx.2.2.1 m hm).2.2
    rw [hw] at this
    exact this.1
  · have := hx.2.2.2.2.2.1
    rw [hw] at this
    exact this.1
/-- what the reading leaves, on both ends -/
def zrdE (Z : zZ) (I I' : zI) (u L : Nat) (B : Nat → Nat) (J J' : zJ) (v : Int32) : Prop := zfrD u I I' ∧ (∀ a, a ≠ 24 → a ≠ u + 16 → J' a = J a) ∧ match zfin (zrdS B L) with
  | .error e => (1 ≤ e.1 ∧ e.1 ≤ 6) ∧ v = nI e.1 ∧ I' 2 1 = nI (zplc B L e.2)
  | .ok _ => v = 0 ∧ zCT I' u (zt9 (zrdS B L).2.2.1 (zrdS B L).2.2.2.1) (zrdS B L).2.2.2.1 ∧ zTW (zt9 (zrdS B L).2.2.1 (zrdS B L).2.2.2.1) (zrdS B L).2.2.2.1
theorem C_read3 (hL : zLY Z t u) (hu : u = 3 ∨ u = 30) (hB : zBc I B L) (hJ : zKc J) (hS : zSg I) : ∃ I1 J1 I2 J2 I3 v, zE 9 kX5_begin 0 [some (.ref 2), some (.ref 1), some (.int (nI L))] [] Z I J (none, Z, I1, J1) ∧ zE 9 kX5_readTells 0 [some (.ref 2), none] [] Z (zu I1 0 1 0) J1 (none, Z, I2, J2) ∧ zE 9 kX5_finish 0 [some (.ref 2)] [] Z I2 J2 (some (.int v), Z, I3, J2) ∧ zrdE Z (zu I 0 1 0) I3 u L B J J2 v := by
  obtain ⟨I1, J1, a1, a2, a3, a4, a5⟩ := C_begin5 (d := 1) (C := fun _ => (0, 0, 0)) hL hu hB hJ hS
  have hTB := zTB_tok (fun i hi => (hB.2 i hi).1)
  obtain ⟨I0, e0⟩ : ∃ I0 : zI, I0 = zu I1 0 1 0 := ⟨_, rfl⟩
  have r0 : ∀ a, a ≠ 0 → I0 a = I1 a := fun a p => by rw [e0, zu_ne p]
  have hT0 : zTC I0 J1 (zknd B L) (zplc B L) (zvlu B L) (znam B L) := fun i hi hg => by
    rw [r0 21 (by decide), r0 22 (by decide), r0 23 (by decide)]; exact a2 i hi hg
  have hS0 : zCS I0 J1 u (zknd B L) (zplc B L) (zps0 fun _ => (0, 0, 0)) := by
    refine ⟨a3.1.rw (r0 2 (by decide)), fun t1 e1 => ?_⟩
    obtain ⟨c1, sz, c2, c3⟩ := a3.2 t1 e1
    exact ⟨c1.same (by rw [r0 2 (by decide)]) (fun a p q => r0 a (by omega)) (Nat.le_refl _) id, sz, c2, c3.same (fun a p q => r0 a (by omega)) rfl⟩
  obtain ⟨I2, J2, b1, b2, b3, b4⟩ := C_tells (d := 3) hL hu hTB 401 0 _ I0 J1 (by decide) hT0 hS0
  have b4' : zCS I2 J2 u (zknd B L) (zplc B L) (zrdS B L) := b4
  obtain ⟨I3, v, f1, f2, f3⟩ := C_finish (d := 6) (J := J2) hL hu (fun h1 h2 => by
    obtain ⟨⟨g1, g2, -⟩, g4, -⟩ := zrd_G h1 h2
    exact ⟨by omega, by omega, fun i hi => by have := g4 i hi; omega⟩) b4'
  refine ⟨I1, J1, I2, J2, I3, v, a1, BX5_readTells_0 hL (by rw [← e0]; exact b1), f1, ?_, fun a p q => by rw [b3 a q, a5 a p], ?_⟩
  · intro a p q r
    rw [f2 a p (by omega) r, b2 a p (by omega) r, e0]
    by_cases h0 : a = 0
    · subst h0
      funext k
      by_cases h1 : k = 1
      · rw [h1, zu_eq, zu_eq]
      · rw [zu_k h1, zu_k h1, a4 0 p q r]
    · rw [zu_ne h0, zu_ne h0, a4 a p q r]
  · cases hz : zfin (zrdS B L) with
    | error e => rw [hz] at f3; exact f3
    | ok t1 => rw [hz] at f3; exact ⟨f3.1, f3.2, zrd_W hz b4'⟩
end
