/-! run -/
section
variable {d : Nat} {Z : zZ} {J : zJ} {I I' I1 I2 I4 : zI} {t u v b b1 n nx kt : Nat} {τ : Nat → Nat → Nat} {Λ : Nat → Option zLaw} {ρ ρ' : Nat → Nat} {hs : Nat → Nat → Nat} {sl : Nat → Option (Nat → Nat)} {A : Nat → Nat × Nat × Bool}
/-- the day behind some minutes -/
def zmr (τ : Nat → Nat → Nat) (Λ : Nat → Option zLaw) : Nat → (Nat → Nat) → Nat → Nat
  | 0, ρ => ρ
  | k + 1, ρ => zmr τ Λ k (zmi τ Λ (fun _ => 0) ρ)
theorem zmr_ok (hW : zTW τ Λ) : ∀ (k b : Nat) (ρ : Nat → Nat), zDW τ ρ → zRb b ρ → zDW τ (zmr τ Λ k ρ) ∧ zRb (b + 7 * k) (zmr τ Λ k ρ) := by
  intro k
  induction k with
  | zero => intro b ρ h1 h2; exact ⟨h1, h2⟩
  | succ k ih =>
    intro b ρ h1 h2
    obtain ⟨a1, a2⟩ := zmi_ok hW (fun _ => 0) h1 h2
    obtain ⟨c1, c2⟩ := ih (b + 7) _ a1 a2
    exact ⟨c1, c2.mono (by omega)⟩
theorem C_run_loop (hL : zLY Z t u) (ht3 : t = 3 ∨ t = 30) (hW : zTW τ Λ) {x : Nat} (hx : x ≤ 200) : ∀ (k i b : Nat) (I : zI) (ρ : Nat → Nat), i + k = x → b + 7 * k < 900000000 → zSx I → zCT I t τ Λ → zCE I 47 τ ρ → zDW τ ρ → zRb b ρ →
    ∃ I', zE (d + 6) kX11_run 30 [some (.ref 0), some (.int (nI x)), some (.int (nI i))] [] Z I J (some (.int (nI (zmr τ Λ k ρ 28))), Z, I', J) ∧ zCE I' 47 τ (zmr τ Λ k ρ) ∧ zfb 47 t I I' := by
  intro k
  induction k with
  | zero =>
    intro i b I ρ hi hb hS hT hC hD hB
    refine ⟨I, BX11_run_30 _ _ hL ⟨fun _ => by rw [hC.2.1]; rfl, fun q => absurd ((zle' (by omega) (by omega)).mpr (by omega)) q⟩, hC, zfb.rf⟩
  | succ k ih =>
    intro i b I ρ hi hb hS hT hC hD hB
    obtain ⟨I1, g1, g2, g3⟩ := C_goBy (d := d) (J := J) hL (ly_d47 hL) (ly_tx hL) (by decide) (by omega) hW (by omega) hS hT hC hD hB
    obtain ⟨k1, k2⟩ := zmi_ok hW (fun _ => 0) hD hB
    obtain ⟨I', j1, j2, j3⟩ := ih (i + 1) (b + 7) I1 _ (by omega) (by omega) (hS.b g3 (by omega) (by decide)) (hT.b g3 (by omega)) g2 k1 k2
    refine ⟨I', BX11_run_30 _ _ hL ⟨fun q => ?_, fun _ => ⟨I1, g1, by rw [zadd1]; exact j1⟩⟩, j2, g3.tr j3⟩
    exfalso; rw [zle' (by omega) (by omega)] at q; omega
theorem M_run_loop (hL : zLY Z t u) (hW : zTW τ Λ) {x : Nat} (hx : x ≤ 200) : ∀ (k i b : Nat) (I : zI) (ρ : Nat → Nat), i + k = x → b + 7 * k < 900000000 → zMT I v τ Λ → zRM I 458 0 ρ → zDW τ ρ → zRb b ρ → (∀ m, m < 7 → I 459 m = nI 0) →
    ∃ I4, zRM I4 458 0 (zmr τ Λ k ρ) ∧ zfw I I4 ∧ ∀ o : zO, (∃ I5, zE (d + 5) kX12_keeps 0 [some (.ref 420), none] [] Z I4 J (none, Z, I5, J) ∧ o = (some (.int (I5 457 28)), Z, I5, J)) → zE (d + 6) kX12_run 31 [some (.ref 420), some (.int (nI x)), some (.int (nI i))] [] Z I J o := by
  intro k
  induction k with
  | zero =>
    intro i b I ρ hi hb hM hR hD hB hl
    exact ⟨I, hR, zfm.rf, fun o K => BX12_run_31 _ _ hL ⟨fun _ => K, fun q => absurd ((zle' (by omega) (by omega)).mpr (by omega)) q⟩⟩
  | succ k ih =>
    intro i b I ρ hi hb hM hR hD hB hl
    obtain ⟨I1, g1, g2, g3⟩ := M_minuteGoes (d := d) (J := J) (lm := fun _ => 0) hL hW (fun _ _ => by decide) (by omega) hM hR hD hB hl
    obtain ⟨k1, k2⟩ := zmi_ok hW (fun _ => 0) hD hB
    obtain ⟨I4, j1, j2, j3⟩ := ih (i + 1) (b + 7) I1 _ (by omega) (by omega) (hM.fw g3) g2 k1 k2 (fun m hm => by rw [g3.row (by decide) (by decide) (by decide) (by decide)]; exact hl m hm)
    refine ⟨I4, j1, zfm.tr g3 j2, fun o K => BX12_run_31 _ _ hL ⟨fun q => ?_, fun _ => ⟨I1, g1, by rw [zadd1]; exact j3 o K⟩⟩⟩
    exfalso; rw [zle' (by omega) (by omega)] at q; omega
theorem X_run (h : zFul Z I t u v τ Λ b ρ n nx hs sl kt A) (hb : b + 2000 < 500000000) (x : Int32) : zX kX11_run kX12_run [some (.ref 0), some (.int x), none] [some (.ref 420), some (.int x), none] Z I J t u v τ Λ b := by
  have h0 := h.1
  have h7 := h0.n7
  have ht3 := h0.t3
  by_cases hx : 0 ≤ x ∧ x ≤ 200
  · obtain ⟨k, hk, rfl⟩ : ∃ k, k ≤ 200 ∧ x = nI k := by
      obtain ⟨k, _, rfl⟩ := znI_ex x (Int32.not_lt.mpr hx.1)
      have := hx.2
      rw [show (200 : Int32) = nI 200 from rfl, zle' (by omega) (by decide)] at this
      exact ⟨k, this, rfl⟩
    have n0 : ¬ nI k < 0 := zneg (by omega)
    have bx : ¬ zbi (0 ≤ nI k ∧ nI k ≤ 200) = 0 := fun q => absurd hx (zbi_eq0.mp q)
    by_cases e0 : k = 0
    · subst e0
      exact zX.q h hb (zQ2.of h0 (nI (ρ 28)) ⟨I, BX11_run_0 (d := 4) _ h0.L ⟨fun q => absurd q n0, fun _ => ⟨fun _ => ⟨fun _ => BX11_run_30 _ _ h0.L ⟨fun _ => by rw [h0.E.2.1], fun q => absurd (Int32.le_refl _) q⟩, fun q => absurd (Int32.le_refl _) q⟩, fun q => absurd hx.2 q⟩⟩, zscr.rf⟩ (fun I1 h1 => ⟨I1, BX12_run_0 (d := 4) _ h1.L ⟨fun _ => ⟨fun q => absurd rfl q, fun _ => by have := h1.R 28 (by decide); rw [Nat.zero_add] at this; rw [this]⟩, fun q => absurd q bx⟩, zscr.rf⟩))
    · obtain ⟨I1, r1, r2, hS1, hT1, hE1, r3⟩ := X_rem (d := 6) (J := J) h
      obtain ⟨I2, l1, l2, l3⟩ := C_run_loop (d := 4) (J := J) h0.L ht3 h0.W hk k 0 b I1 ρ (by omega) (by omega) hS1 hT1 hE1 h0.D h0.bd
      obtain ⟨z1, z2⟩ := zmr_ok h0.W k b ρ h0.D h0.bd
      have fr : ∀ a, ¬ (47 ≤ a ∧ a ≤ 56) → a ≠ 67 → ¬ (71 ≤ a ∧ a ≤ 370) → a ≠ t + 4 → a ≠ t + 5 → I2 a = I a := fun a p1 p2 p3 p4 p5 => (l3 a (by omega) p4 p5).trans (r3 a p2 p3)
      have hM2 : zMT I2 v τ Λ := h0.M.same (by rw [fr 420 (by decide) (by decide) (by decide) (by omega) (by omega)]) (fun a _ _ => fr a (by omega) (by omega) (by omega) (by omega) (by omega))
      obtain ⟨I3, c1, c2, c3, c4⟩ := M_copies' (d := 9) (J := J) h0.L (I := I2) (ρ := ρ) (fun k hk => by rw [fr 457 (by decide) (by decide) (by decide) (by omega) (by omega)]; exact h0.R k hk)
      have hM3 : zMT I3 v τ Λ := hM2.same (by rw [c4 420 (by decide) (by decide)]) (fun a _ _ => c4 a (by omega) (by omega))
      obtain ⟨I4, s2, s3, s4⟩ := M_run_loop (d := 4) (J := J) h0.L h0.W hk k 0 b I3 ρ (by omega) (by omega) hM3 c2 h0.D h0.bd c3
      obtain ⟨I5, k1, k2, k3⟩ := X_keep (d := 8) (J := J) h hb l2 (r2.same (znx_lt h) (l3 67 (by decide) (by omega) (by omega)) (fun a p1 p2 => l3 a (by omega) (by omega) (by omega))) fr s2 (fun a p1 p2 p3 p4 p5 => (s3.row p1 p2 p3 p4).trans (c4 a p4 p5)) (fun k p => (s3.2 k (by simpa using p)).trans (by rw [c4 420 (by decide) (by decide)])) z2 (by omega) z1
      refine ⟨nI (zmr τ Λ k ρ 28), I2, I5, BX11_run_0 (d := 4) _ h0.L ⟨fun q => absurd q n0, fun _ => ⟨fun _ => ⟨fun q => ?_, fun _ => ⟨I1, r1, l1⟩⟩, fun q => absurd hx.2 q⟩⟩, BX12_run_0 (d := 4) _ h0.L ⟨fun _ => ⟨fun _ => ⟨I3, c1, s4 _ ⟨I5, k1, ?_⟩⟩, fun q => absurd ((zn0 (by omega)).mp q) e0⟩, fun q => absurd q bx⟩, _, _, _, _, _, _, _, k3⟩
      · exfalso
        have q' : nI k ≤ nI 0 := q
        rw [zle' (by omega) (by decide)] at q'; omega
      · have := k2 28 (by decide); rw [Nat.zero_add] at this; rw [this]
  · refine zX.q h hb (zQ2.of h0 (-1) ⟨I, BX11_run_0 (d := 4) _ h0.L ⟨fun _ => rfl, fun q => ⟨fun q2 => absurd ⟨Int32.not_lt.mp q, q2⟩ hx, fun _ => rfl⟩⟩, zscr.rf⟩ (fun I1 h1 => ⟨I1, BX12_run_0 (d := 4) _ h1.L ⟨fun q => absurd (zbi_eq0.mpr hx) q, fun _ => rfl⟩, zscr.rf⟩))
end
