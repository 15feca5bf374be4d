/-! the reference's reader: how it comes to its end -/
section
variable {d : Nat} {Z : zZ} {I I' I0 : zI} {J J' : zJ} {t u s v : Nat} {K P V W X DX DY ρ : Nat → Nat} {o : zO}
theorem M_corners (hL : zLY Z t u) (hs : s < 2) (hT : zTM I J K P V X) (hB : zMB K P V W X) {st : zPs} (hG : zGs st) (h : zMS I J s K P W X st) : ∃ I', (∀ o, zE (d + 7) kX12_read 217 [some (.ref 420), none] [] Z I' J o → zE (d + 7) kX12_read 139 [some (.ref 420), none] [] Z I J o) ∧ zf4 [15, 16] I I' ∧ match zfin st with
    | .error e => (1 ≤ e.1 ∧ e.1 ≤ 6) ∧ (I' 420 13 = nI e.1 ∧ I' 420 14 = nI (P e.2) ∨ I' 420 13 = 0 ∧ I' 420 15 = nI e.1 ∧ I' 420 16 = nI (P e.2))
    | .ok _ => I' 420 13 = 0 ∧ I' 420 15 = 0 := by
  obtain ⟨r, wo, τ, Λ, N, cn, C⟩ := st
  obtain ⟨hC, ⟨h19, -, -⟩, hO⟩ := h
  have hC : zMc I K P r wo := hC
  cases r with
  | error e =>
    have h1 : zMt I K P (.error e) := hC.1
    exact ⟨I, fun o ho => BX12_read_139 hL (BX12_read_141 _ hL ⟨fun _ => ho, fun _ => ⟨fun _ => ho, fun q => absurd q h1.e0.1⟩⟩), zf4.rf, h1.1, Or.inl ⟨h1.2.1, h1.2.2.1⟩⟩
  | ok t0 =>
    have h1 : zMt I K P (.ok t0) := hC.1
    have hw := hC.2 t0 rfl
    cases wo with
    | some q =>
      obtain ⟨q1, q2, q3, q4⟩ := hw
      have ne : ¬ I 420 15 = 0 := by rw [q2]; exact nI_ne0 (by omega) (by omega)
      exact ⟨I, fun o ho => BX12_read_139 hL (BX12_read_141 _ hL ⟨fun _ => ho, fun _ => ⟨fun _ => ho, fun _ => ⟨fun _ => ho, fun q => absurd q ne⟩⟩⟩), zf4.rf, q1, Or.inr ⟨h1.2.1, q2, q3⟩⟩
    | none =>
      have hO0 : zMo I J s K W X t0 τ Λ N cn C := hO t0 rfl
      obtain ⟨br, cd, -, ⟨-, ⟨-, g3, g4, -, -⟩, -⟩, -, hCn⟩ := hO0
      have hG0 : zG τ cn C := hG trivial rfl
      obtain ⟨⟨⟨-, w1⟩, ⟨-, w2⟩, -⟩, -⟩ := hG0
      have h15 : I 420 15 = 0 := hw
      have h13 : I 420 13 = 0 := h1.2.1
      have h35 : I 420 35 = nI cn := hCn.1.1
      have ht0 := h1.1.1
      have hv19 : vp_in (I 420 19) 2 := by rw [h19]; exact zvin hs (by decide)
      have x429 : I 429 (I 420 19).toNatClampNeg = nI (τ 0 1) := by rw [h19, zclm (by omega)]; exact g3
      have x430 : I 430 (I 420 19).toNatClampNeg = nI (τ 0 2) := by rw [h19, zclm (by omega)]; exact g4
      have hcn : cn ≤ 49 → True := fun _ => trivial
      have loop : ∀ f k, k + f = cn → cn ≤ 49 → ∃ I', (∀ o, zE (d + 7) kX12_read 217 [some (.ref 420), none] [] Z I' J o → zE (d + 7) kX12_read 141 [some (.ref 420), some (.int (nI k))] [] Z I J o) ∧ zf4 [15, 16] I I' ∧ I' 420 13 = 0 ∧ match zfoc (τ 0 1) (τ 0 2) C f k with
          | none => I' 420 15 = 0
          | some tk => I' 420 15 = nI 6 ∧ I' 420 16 = nI (P tk) := by
        intro f
        induction f with
        | zero =>
          intro k hk h49
          obtain rfl : k = cn := by omega
          exact ⟨I, fun o ho => BX12_read_141 _ hL ⟨fun _ => ho, fun q => absurd (by rw [h35]; exact Int32.le_refl _) q⟩, zf4.rf, h13, h15⟩
        | succ f ih =>
          intro k hk h49
          have nle : ¬ I 420 35 ≤ nI k := by rw [h35, zle' (by omega) (by omega)]; omega
          obtain ⟨⟨c1, c2, c3⟩, c4, c5, c6⟩ := hCn.2 k (by omega)
          have hvk : vp_in (nI k) 49 := zvin (by omega) (by decide)
          have e442 : I 442 (nI k).toNatClampNeg = nI (C k).1 := by rw [zclm (by omega)]; exact c4
          have e443 : I 443 (nI k).toNatClampNeg = nI (C k).2.1 := by rw [zclm (by omega)]; exact c5
          have d1 : I 429 (I 420 19).toNatClampNeg ≤ I 442 (nI k).toNatClampNeg ↔ τ 0 1 ≤ (C k).1 := by rw [x429, e442, zle' (by omega) (by omega)]
          have d2 : I 443 (nI k).toNatClampNeg < I 430 (I 420 19).toNatClampNeg ↔ (C k).2.1 < τ 0 2 := by rw [x430, e443, zlt (by omega) (by omega)]
          simp only [zfoc]
          by_cases c : (C k).1 < τ 0 1 ∧ (C k).2.1 < τ 0 2
          · rw [if_pos c]
            obtain ⟨I', a1, a2⟩ := ih (k + 1) (by omega) h49
            exact ⟨I', fun o ho => BX12_read_141 _ hL ⟨fun q => absurd q nle, fun _ => ⟨fun q => absurd h13 q, fun _ => ⟨fun q => absurd h15 q, fun _ => ⟨hvk, hv19, fun q => absurd (d1.mp q) (by omega), fun _ => ⟨hvk, hv19, fun _ => BX12_read_211 _ hL (by rw [zadd1]; exact a1 o ho), fun q => absurd (d2.mpr c.2) q⟩⟩⟩⟩⟩, a2⟩
          · rw [if_neg c]
            obtain ⟨I2, b1, b2, b3, b4⟩ := M_wrong (d := d + 6) hL hT hB h1 (k := 6) (by decide) (i := (C k).2.2) (by omega) (fun _ j hj => h1.1.2 j (by omega)) (wo := none) (fun _ => h15) rfl
            have b3' := b3 trivial
            obtain ⟨-, z1, z2, -⟩ := b3'
            have ne : ¬ I2 420 15 = 0 := by rw [z1]; exact nI_ne0 (n := 6) (by decide) (by decide)
            have at199 : ∀ o, zE (d + 7) kX12_read 217 [some (.ref 420), none] [] Z I2 J o → zE (d + 7) kX12_read 199 [some (.ref 420), some (.int (nI k))] [] Z I J o := fun o ho => BX12_read_199 _ hL ⟨hvk, I2, by rw [zclm (by omega), c6]; exact b1, BX12_read_211 _ hL (BX12_read_141 _ hL ⟨fun _ => ho, fun _ => ⟨fun _ => ho, fun _ => ⟨fun _ => ho, fun q => absurd q ne⟩⟩⟩)⟩
            exact ⟨I2, fun o ho => BX12_read_141 _ hL ⟨fun q => absurd q nle, fun _ => ⟨fun q => absurd h13 q, fun _ => ⟨fun q => absurd h15 q, fun _ => ⟨hvk, hv19, fun _ => at199 o ho, fun q1 => ⟨hvk, hv19, fun q2 => absurd ⟨by rw [d1] at q1; omega, d2.mp q2⟩ c, fun _ => at199 o ho⟩⟩⟩⟩⟩, b4, b2.2.1, z1, z2⟩
      have c49 : cn ≤ 49 := by
        have hO1 : zMo I J s K W X t0 τ Λ N cn C := hO t0 rfl
        obtain ⟨br', cd', -, ⟨d1, -⟩, -, d3⟩ := hO1
        have e1 : τ 0 0 ≤ 7 := d1.1
        have e2 : zsum (τ 4) 0 (τ 0 0) ≤ 6 * τ 0 0 := zsum_le (fun j _ hj => d1.2.2 j (by omega))
        have e3 : cn = τ 0 0 + zsum (τ 4) 0 (τ 0 0) := d3.1.2
        omega
      obtain ⟨I', a1, a2, a3, a4⟩ := loop cn 0 (by omega) c49
      have ez : zfin (.ok t0, none, τ, Λ, N, cn, C) = match zfoc (τ 0 1) (τ 0 2) C cn 0 with | some tk => .error (6, tk) | none => .ok t0 := rfl
      rw [ez]
      refine ⟨I', fun o ho => BX12_read_139 hL (a1 o ho), a2, ?_⟩
      cases hz : zfoc (τ 0 1) (τ 0 2) C cn 0 with
      | none => rw [hz] at a4; exact ⟨a3, a4⟩
      | some tk => rw [hz] at a4; exact ⟨(show 1 ≤ 6 ∧ 6 ≤ 6 by decide), Or.inr ⟨a3, a4⟩⟩
theorem M_endF (hL : zLY Z t u) {e : Nat × Nat} (he : 1 ≤ e.1 ∧ e.1 ≤ 6) (h : I 420 13 = nI e.1 ∧ I 420 14 = nI (P e.2) ∨ I 420 13 = 0 ∧ I 420 15 = nI e.1 ∧ I 420 16 = nI (P e.2)) : zE (d + 7) kX12_read 217 [some (.ref 420), none] [] Z I J (some (.int (nI e.1)), Z, zu I 420 17 (nI (P e.2)), J) := by
  have n0 : ¬ nI e.1 ≤ 0 := by rw [show (0 : Int32) = nI 0 from rfl, zle' (by omega) (by decide)]; omega
  rcases h with ⟨h1, h2⟩ | ⟨h1, h2, h3⟩
  · have n1 : ¬ I 420 13 ≤ 0 := by rw [h1]; exact n0
    exact BX12_read_217 hL ⟨fun q => absurd q n1, fun _ I1 e1 => by
      have k13 : I1 420 13 = nI e.1 := by rw [e1, zu_k (by decide)]; exact h1
      exact ⟨fun q => absurd (by rw [k13] at q; exact q) n0, fun _ => by rw [k13, e1, h2]⟩⟩
  · have y1 : I 420 13 ≤ 0 := by rw [h1]; decide
    have n1 : ¬ I 420 15 ≤ 0 := by rw [h2]; exact n0
    exact BX12_read_217 hL ⟨fun _ => ⟨fun q => absurd q n1, fun _ I1 e1 => by
      have k13 : I1 420 13 = 0 := by rw [e1, zu_k (by decide)]; exact h1
      have k15 : I1 420 15 = nI e.1 := by rw [e1, zu_k (by decide)]; exact h2
      exact ⟨fun _ => ⟨fun q => absurd (by rw [k15] at q; exact q) n0, fun _ => by rw [k15, e1, h3]⟩, fun q => absurd (by rw [k13]; decide) q⟩⟩, fun q => absurd y1 q⟩
theorem M_slots (hL : zLY Z t u) : ∀ (f k : Nat) (I : zI), k + f = 3 → ∃ I', zE (d + 7) kX12_read 302 [some (.ref 420), some (.int (nI k))] [] Z I J (some (.int 0), Z, I', J) ∧ (∀ a, a ≠ 471 → I' a = I a) ∧ (∀ j, j < k → I' 471 j = I 471 j) ∧ ∀ j, k ≤ j → j < 3 → I' 471 j = 0 := by
  intro f
  induction f with
  | zero =>
    intro k I hk
    obtain rfl : k = 3 := by omega
    exact ⟨I, BX12_read_302 _ hL ⟨fun _ => rfl, fun q => absurd (by decide) q⟩, fun _ _ => rfl, fun _ _ => rfl, fun j h1 h2 => by omega⟩
  | succ f ih =>
    intro k I hk
    have n3 : ¬ 3 ≤ nI k := by rw [show (3 : Int32) = nI 3 from rfl, zle' (by decide) (by omega)]; omega
    obtain ⟨I', g1, g2, g3, g4⟩ := ih (k + 1) (zu I 471 k 0) (by omega)
    refine ⟨I', BX12_read_302 _ hL ⟨fun q => absurd q n3, fun _ => ⟨zvin (by omega) (by decide), fun y ey => by
      have : y = zu I 471 k 0 := by rw [ey, zclm (by omega)]; rfl
      rw [this, zadd1]; exact g1⟩⟩, fun a p => by rw [g2 a p, zu_ne p], fun j hj => by rw [g3 j (by omega), zu_k (by omega)], fun j h1 h2 => ?_⟩
    by_cases e : j = k
    · rw [e, g3 k (by omega), zu_eq]
    · exact g4 j (by omega) h2
theorem M_endO (hL : zLY Z t u) (hs : s < 2) (h13 : I 420 13 = 0) (h15 : I 420 15 = 0) (h19 : I 420 19 = nI s) (hD : ∀ m, m < 7 → I 432 (7 * s + m) = nI (DX m) ∧ I 433 (7 * s + m) = nI (DY m)) (hR : zRM I 458 0 ρ) : ∃ I', zE (d + 7) kX12_read 217 [some (.ref 420), none] [] Z I J (some (.int 0), Z, I', J) ∧ zRM I' 457 0 (zbg DX DY ρ) ∧ zRM I' 458 0 (zbg DX DY ρ) ∧ (∀ k, k < 3 → I' 471 k = 0) ∧ (I' 420 17 = -1 ∧ I' 420 18 = nI s ∧ I' 420 58 = 0 ∧ I' 420 69 = 0) ∧ (∀ k, k ≠ 17 → k ≠ 18 → k ≠ 58 → k ≠ 69 → I' 420 k = I 420 k) ∧ ∀ a, a ≠ 420 → a ≠ 457 → a ≠ 458 → a ≠ 459 → a ≠ 471 → I' a = I a := by
  obtain ⟨I1, e1⟩ : ∃ I1 : zI, I1 = zu I 420 17 (-1) := ⟨_, rfl⟩
  obtain ⟨I2, e2⟩ : ∃ I2 : zI, I2 = zu I1 420 18 (nI s) := ⟨_, rfl⟩
  have r2 : ∀ a, a ≠ 420 → I2 a = I a := fun a p => by rw [e2, zu_ne p, e1, zu_ne p]
  obtain ⟨I3, b1, b2, -, b4⟩ := M_begins (d := d + 6) (J := J) (I := I2) (ρ := ρ) (DX := DX) (DY := DY) hL hs (by rw [e2, zu_eq]) (fun m hm => by rw [r2 432 (by decide), r2 433 (by decide)]; exact hD m hm) (fun k hk => by rw [r2 458 (by decide)]; exact hR k hk)
  obtain ⟨I4, c1, c2, c3⟩ := M_keepsRow' (d := d + 6) (J := J) hL b2
  obtain ⟨I5, e5⟩ : ∃ I5 : zI, I5 = zu I4 420 58 0 := ⟨_, rfl⟩
  obtain ⟨I6, e6⟩ : ∃ I6 : zI, I6 = zu I5 420 69 0 := ⟨_, rfl⟩
  obtain ⟨I7, s1, s2, -, s4⟩ := M_slots (d := d) (J := J) hL 3 0 I6 rfl
  have r6 : ∀ a, a ≠ 420 → I6 a = I4 a := fun a p => by rw [e6, zu_ne p, e5, zu_ne p]
  have k13 : I1 420 13 = 0 := by rw [e1, zu_k (by decide)]; exact h13
  have k15 : I1 420 15 = 0 := by rw [e1, zu_k (by decide)]; exact h15
  have k19 : I1 420 19 = nI s := by rw [e1, zu_k (by decide)]; exact h19
  have f4 : ∀ k, I4 420 k = I2 420 k := fun k => by rw [c3 420 (by decide), b4 420 (by decide) (by decide)]
  refine ⟨I7, BX12_read_217 hL ⟨fun _ => ⟨fun _ y1 ey1 => ?_, fun q => absurd (by rw [h15]; decide) q⟩, fun q => absurd (by rw [h13]; decide) q⟩, fun k hk => ?_, fun k hk => ?_, fun k hk => s4 k (Nat.zero_le _) hk, ⟨?_, ?_, ?_, ?_⟩, fun k p1 p2 p3 p4 => ?_, fun a p1 p2 p3 p4 p5 => ?_⟩
  · rw [← e1] at ey1
    rw [ey1]
    exact ⟨fun _ => ⟨fun _ y2 ey2 => ⟨I3, by rw [ey2, k19, ← e2]; exact b1, I4, c1, fun y5 ey5 y6 ey6 => by rw [ey6, ey5, ← e5, ← e6]; exact s1⟩, fun q => absurd (by rw [k15]; decide) q⟩, fun q => absurd (by rw [k13]; decide) q⟩
  · rw [s2 457 (by decide), r6 457 (by decide)]; exact c2 k hk
  · rw [s2 458 (by decide), r6 458 (by decide), c3 458 (by decide)]; exact b2 k hk
  · rw [s2 420 (by decide), e6, zu_k (by decide), e5, zu_k (by decide), f4, e2, zu_k (by decide), e1, zu_eq]
  · rw [s2 420 (by decide), e6, zu_k (by decide), e5, zu_k (by decide), f4, e2, zu_eq]
  · rw [s2 420 (by decide), e6, zu_k (by decide), e5, zu_eq]
  · rw [s2 420 (by decide), e6, zu_eq]
  · rw [s2 420 (by decide), e6, zu_k p4, e5, zu_k p3, f4, e2, zu_k p2, e1, zu_k p1]
  · rw [s2 a p5, r6 a p1, c3 a p2, b4 a p3 p4, r2 a p1]
end
