/-! home, run -/
section
variable {d : Nat} {Z : zZ} {J : zJ} {I I' I1 I2 I4 : zI} {t u v b b1 n nx kt : Nat} {τ : Nat → Nat → Nat} {Λ : Nat → Option zLaw} {ρ ρ' : Nat → Nat} {hs : Nat → Nat → Nat} {sl : Nat → Option (Nat → Nat)} {A : Nat → Nat × Nat × Bool}
theorem zwa_ok (hW : zTW τ Λ) {m : Nat} (hm : m < τ 0 0) : ∀ (f : Nat) (ρ : Nat → Nat), zDW τ ρ → zRb b ρ → zDW τ (zwa τ f ρ m).2 ∧ zRb b (zwa τ f ρ m).2 ∧ (zwa τ f ρ m).2 28 = ρ 28 ∧ (zwa τ f ρ m).1 ≤ f := by
  have h7 := hW.1.1
  intro f
  induction f with
  | zero => intro ρ h1 h2; exact ⟨h1, h2, rfl, Nat.le_refl _⟩
  | succ f ih =>
    intro ρ h1 h2
    simp only [zwa]
    by_cases hc : zcanW τ ρ m
    · rw [if_pos hc]
      obtain ⟨a1, a2, a3, a4⟩ := ih (zunl ρ m) (zDW_unl hW h1 hm hc.1 hc.2.1) (zRb_unl h2 h1 hW hm hc.1 hc.2.1)
      exact ⟨a1, a2, a3.trans (zunl_28 (by omega)), by dsimp only; omega⟩
    · rw [if_neg hc]; exact ⟨h1, h2, rfl, Nat.zero_le _⟩
theorem zwa_pos {f : Nat} {ρ : Nat → Nat} {m : Nat} (hc : zcanW τ ρ m) : (zwa τ (f + 1) ρ m).1 = (zwa τ f (zunl ρ m) m).1 + 1 := by
  simp only [zwa]; rw [if_pos hc]
theorem M_home (hL : zLY Z t u) (hW : zTW τ Λ) (hb : b < 1000000000) {m : Nat} (hm : m < τ 0 0) : ∀ (f c : Nat) (ρ : Nat → Nat) (I1 : zI), ρ (14 + m) ≤ f → zMT I1 v τ Λ → zRM I1 458 0 ρ → zDW τ ρ → zRb b ρ → c + (zwa τ f ρ m).1 ≠ 0 → c + f < 1000 →
    ∃ I4, zRM I4 458 0 (zwa τ f ρ m).2 ∧ zfw I1 I4 ∧ ∀ o : zO, (∃ I5, zE (d + 1) kX12_keeps 0 [some (.ref 420), none] [] Z I4 J (none, Z, I5, J) ∧ o = (some (.int (nI (c + (zwa τ f ρ m).1))), Z, I5, J)) → zE (d + 2) kX12_home 16 [some (.ref 420), some (.int (nI m)), some (.int (nI c))] [] Z I1 J o := by
  have h7 := hW.1.1
  have stop : ∀ (f c : Nat) (ρ : Nat → Nat) (I1 : zI), zMT I1 v τ Λ → zRM I1 458 0 ρ → zDW τ ρ → zRb b ρ → ¬ zcanW τ ρ m → c ≠ 0 → c < 1000 → ∀ o : zO, (∃ I5, zE (d + 1) kX12_keeps 0 [some (.ref 420), none] [] Z I1 J (none, Z, I5, J) ∧ o = (some (.int (nI c)), Z, I5, J)) → zE (d + 2) kX12_home 16 [some (.ref 420), some (.int (nI m)), some (.int (nI c))] [] Z I1 J o := by
    intro f c ρ I1 hM hR hD hB hc h0 hc1 o K
    have s1 := (M_winds (d := d) (J := J) hL hW hM hR (hB.b hb) hD hm).2 hc
    exact BX12_home_16 _ _ hL ⟨_, I1, s1, fun _ => ⟨fun _ => K, fun q => absurd ((zn0 (by omega)).mp q) h0⟩, fun q => absurd rfl q⟩
  intro f
  induction f with
  | zero =>
    intro c ρ I1 hf hM hR hD hB h0 hc1
    have hc : ¬ zcanW τ ρ m := fun z => z.2.1 (by omega)
    exact ⟨I1, hR, zfm.rf, stop 0 c ρ I1 hM hR hD hB hc h0 (by omega)⟩
  | succ f ih =>
    intro c ρ I1 hf hM hR hD hB h0 hc1
    simp only [zwa] at h0 ⊢
    by_cases hc : zcanW τ ρ m
    · rw [if_pos hc] at h0 ⊢
      dsimp only at h0 ⊢
      obtain ⟨I2, s1, s2, s3⟩ := (M_winds (d := d) (J := J) hL hW hM hR (hB.b hb) hD hm).1 hc
      have hlen : zunl ρ m (14 + m) ≤ f := by rw [zunl_i, if_neg (show ¬ 14 + m = 7 + m by omega), if_neg (show ¬ 14 + m = m by omega), if_pos rfl]; omega
      obtain ⟨I4, k1, k2, k3⟩ := ih (c + 1) (zunl ρ m) I2 hlen (hM.fw s3) s2 (zDW_unl hW hD hm hc.1 hc.2.1) (zRb_unl hB hD hW hm hc.1 hc.2.1) (by omega) (by omega)
      refine ⟨I4, k1, zfm.tr s3 k2, fun o K => BX12_home_16 _ _ hL ⟨_, I2, s1, fun q => absurd q (by decide), fun _ => ?_⟩⟩
      rw [zadd1]
      refine k3 o ?_
      rw [show c + 1 + (zwa τ f (zunl ρ m) m).1 = c + ((zwa τ f (zunl ρ m) m).1 + 1) by omega]
      exact K
    · rw [if_neg hc] at h0 ⊢
      exact ⟨I1, hR, zfm.rf, stop (f + 1) c ρ I1 hM hR hD hB hc (by simpa using h0) (by omega)⟩
theorem X_home (h : zFul Z I t u v τ Λ b ρ n nx hs sl kt A) (hb : b + 2000 < 500000000) (x : Int32) : zX kX11_home kX12_home [some (.ref 0), some (.int x)] [some (.ref 420), some (.int x), none] Z I J t u v τ Λ b := by
  have h0 := h.1
  have h7 := h0.n7
  have ht3 := h0.t3
  by_cases hx : zism τ x
  · obtain ⟨m, hm, rfl⟩ := (zism_iff h7 x).mp hx
    have cl := C_canTakeUp (d := 7) (J := J) (ly_d47 h0.L) h0.W h0.C h0.D h0.B hm
    by_cases hc : zcanW τ ρ m
    · obtain ⟨I1, r1, r2, hS1, hT1, hE1, r3⟩ := X_rem (d := 6) (J := J) h
      obtain ⟨I2, l1, l2, l3⟩ := C_takeUpAll (d := 5) (J := J) h0.L (ly_d47 h0.L) (by decide) h0.W hm hS1 hE1.1 h0.D h0.B
      obtain ⟨w1, w2, w3, w4⟩ := zwa_ok h0.W hm 60 ρ h0.D h0.bd
      have hpos : 0 + (zwa τ 60 ρ m).1 ≠ 0 := by
        have : (zwa τ 60 ρ m).1 = (zwa τ 59 (zunl ρ m) m).1 + 1 := zwa_pos (f := 59) hc
        omega
      have fr : ∀ a, ¬ (47 ≤ a ∧ a ≤ 56) → a ≠ 67 → ¬ (71 ≤ a ∧ a ≤ 370) → I2 a = I a := fun a p1 p2 p3 => (l3.1 a (by omega)).trans (r3 a p2 p3)
      have hM2 : zMT I2 v τ Λ := h0.M.same (by rw [fr 420 (by decide) (by decide) (by decide)]) (fun a _ _ => fr a (by omega) (by omega) (by omega))
      obtain ⟨I3, c1, c2, c3, c4⟩ := M_copies' (d := 9) (J := J) h0.L (I := I2) (ρ := ρ) (fun k hk => by rw [fr 457 (by decide) (by decide) (by decide)]; exact h0.R k hk)
      have hM3 : zMT I3 v τ Λ := hM2.same (by rw [c4 420 (by decide) (by decide)]) (fun a _ _ => c4 a (by omega) (by omega))
      obtain ⟨I4, s2, s3, s4⟩ := M_home (d := 8) (J := J) h0.L h0.W (by omega) hm 60 0 ρ I3 (h0.H.2 m hm) hM3 c2 h0.D h0.bd hpos (by decide)
      obtain ⟨I5, k1, k2, k3⟩ := X_keep (d := 8) (J := J) h hb (hE1.fd l3 l2 w3) (r2.same (znx_lt h) (l3.1 67 (by decide)) (fun a p1 p2 => l3.1 a (by omega))) (fun a p1 p2 p3 _ _ => fr a p1 p2 p3) s2 (fun a p1 p2 p3 p4 p5 => (s3.row p1 p2 p3 p4).trans (c4 a p4 p5)) (fun k p => (s3.2 k (by simpa using p)).trans (by rw [c4 420 (by decide) (by decide)])) w2 (by omega) w1
      refine ⟨nI (zwa τ 60 ρ m).1, I2, I5, BX11_home_0 (d := 5) _ h0.L ⟨_, C_isMan h0.L h7 h0.men, fun q => absurd hx (zbi_eq0.mp q), fun _ => ⟨_, cl, fun _ => ⟨I1, r1, _, I2, l1, rfl⟩, fun q => absurd hc (zbi_eq0.mp q)⟩⟩, BX12_home_0 (d := 8) _ h0.L ⟨_, M_isMan h0.L h0.W hM2, fun _ => ⟨I3, c1, s4 _ ⟨I5, k1, by rw [Nat.zero_add]⟩⟩, fun q => absurd hx (zbi_eq0.mp q)⟩, _, _, _, _, _, _, _, k3⟩
    · refine zX.q h hb (zQ2.of h0 (-1) ⟨I, BX11_home_0 (d := 5) _ h0.L ⟨_, C_isMan h0.L h7 h0.men, fun _ => rfl, fun _ => ⟨_, cl, fun q => absurd (zbi_eq0.mpr hc) q, fun _ => rfl⟩⟩, zscr.rf⟩ (fun I1 h1 => ?_))
      obtain ⟨I3, c1, c2, c3, c4, c5⟩ := M_cop (d := 9) (J := J) h1
      have s1 := (M_winds (d := 8) (J := J) c2.L c2.W c2.M c3 c2.B c2.D hm).2 hc
      exact ⟨I3, BX12_home_0 (d := 8) _ h1.L ⟨_, M_isMan h1.L h1.W h1.M, fun _ => ⟨I3, c1, BX12_home_16 _ _ h1.L ⟨_, I3, s1, fun _ => ⟨fun q => absurd rfl q, fun _ => rfl⟩, fun q => absurd rfl q⟩⟩, fun q => absurd hx (zbi_eq0.mp q)⟩, c5⟩
  · exact zX.q h hb (zQ2.of h0 (-1) ⟨I, BX11_home_0 (d := 5) _ h0.L ⟨_, C_isMan h0.L h7 h0.men, fun _ => rfl, fun q => absurd (zbi_eq0.mpr hx) q⟩, zscr.rf⟩ (fun I1 h1 => ⟨I1, BX12_home_0 (d := 8) _ h1.L ⟨_, M_isMan h1.L h1.W h1.M, fun q => absurd (zbi_eq0.mpr hx) q, fun _ => rfl⟩, zscr.rf⟩))
end
