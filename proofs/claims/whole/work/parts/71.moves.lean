/-! WIND, CUT, home, run -/
section
variable {d : Nat} {Z : zZ} {J : zJ} {I I' I1 I2 I4 : zI} {t u v b b1 n nx kt : Nat} {τ : Nat → Nat → Nat} {Λ : Nat → Option zLaw} {ρ ρ' : Nat → Nat} {hs : Nat → Nat → Nat} {sl : Nat → Option (Nat → Nat)} {A : Nat → Nat × Nat × Bool}
/-- behind both sides' moves: the reference keeps -/
theorem X_keep (h : zFul Z I t u v τ Λ b ρ n nx hs sl kt A) (hb : b + 2000 < 500000000) (hE2 : zCE I2 47 τ ρ') (hH2 : zHc I2 τ (zh1 n) (znxt nx) (zhp n hs ρ))
    (fr : ∀ a, ¬ (47 ≤ a ∧ a ≤ 56) → a ≠ 67 → ¬ (71 ≤ a ∧ a ≤ 370) → a ≠ t + 4 → a ≠ t + 5 → I2 a = I a) (s2 : zRM I4 458 0 ρ')
    (f4 : ∀ a, a ≠ 420 → a ≠ 455 → a ≠ 456 → a ≠ 458 → a ≠ 459 → I4 a = I2 a) (g4 : ∀ k, k ≠ 54 → I4 420 k = I2 420 k) (hB' : zRb b1 ρ') (hb1 : b1 ≤ b + 2000) (hD' : zDW τ ρ') :
    ∃ I5, zE (d + 1) kX12_keeps 0 [some (.ref 420), none] [] Z I4 J (none, Z, I5, J) ∧ zRM I5 457 0 ρ' ∧ zFul Z I5 t u v τ Λ (b + 2000) ρ' (zh1 n) (znxt nx) (zhp n hs ρ) sl kt A := by
  have h0 := h.1
  have ht3 := h0.t3
  obtain ⟨I5, k1, k2, k3, k4, k5⟩ := M_keeps (d := d) (J := J) h0.L (n := n) (hs := hs) (ρ := ρ) (ρ' := ρ') h.2.1.2.2.1.1 (h.2.1.2.1.same (by rw [g4 58 (by decide), fr 420 (by decide) (by decide) (by decide) (by omega) (by omega)]) (by rw [f4 460 (by decide) (by decide) (by decide) (by decide) (by decide), fr 460 (by decide) (by decide) (by decide) (by omega) (by omega)])) (fun k hk => by rw [f4 457 (by decide) (by decide) (by decide) (by decide) (by decide), fr 457 (by decide) (by decide) (by decide) (by omega) (by omega)]; exact h0.R k hk) s2
  refine ⟨I5, k1, k3, ?_⟩
  exact h.move (b' := b + 2000) (by omega) hb hE2 hH2 fr k3 k2 (fun a p1 p2 => by rw [k4 a p1 (by omega) (by omega), f4 a p1 (by omega) (by omega) (by omega) (by omega)]) (fun k p1 p2 _ _ => by rw [k5 k p2, g4 k p1]) (zw.of (b := b1) (fun k hk => by rw [k4 458 (by decide) (by decide) (by decide)]; exact s2 k hk) hB' (by omega)) ((h.2.1.2.2.one h0.bd h0.D).mono (by omega)) hD' (hB'.mono hb1)
theorem zunl_28 {m : Nat} (hm : m < 7) : zunl ρ m 28 = ρ 28 := zunl_k (by omega) (by omega) (by omega)
theorem zlos_28 {m : Nat} (hm : m < 7) : zlos ρ m 28 = ρ 28 := by rw [zlos_i, if_neg (by omega), if_neg (by omega)]
theorem zRb_los (hB : zRb b ρ) {m : Nat} (hm : m < 7) : zRb b (zlos ρ m) := by
  refine ⟨hB.1, fun k hk hk2 => ?_, by rw [zlos_28 hm]; exact hB.2.2⟩
  have := hB.1
  have := hB.2.1 k hk hk2
  rw [zlos_i]
  (repeat' split) <;> omega
/-- the class remembered -/
theorem X_rem (h : zFul Z I t u v τ Λ b ρ n nx hs sl kt A) : ∃ I1, zE (d + 3) kX3_remember 0 [some (.ref 67), some (.ref 47), none] [] Z I J (none, Z, I1, J) ∧ zHc I1 τ (zh1 n) (znxt nx) (zhp n hs ρ) ∧ zSx I1 ∧ zCT I1 t τ Λ ∧ zCE I1 47 τ ρ ∧ ∀ a, a ≠ 67 → ¬ (71 ≤ a ∧ a ≤ 370) → I1 a = I a := by
  have h0 := h.1
  have ht3 := h0.t3
  obtain ⟨I1, r1, r2, r3⟩ := C_rem (d := d) (J := J) h0.L h0.W h0.E h0.D h.2.1.2.2.1 h.2.1.1
  exact ⟨I1, r1, r2, h0.S.same (r3 _ (by decide) (by decide)) (r3 _ (by decide) (by decide)), h0.T.same (fun a _ _ _ _ => r3 a (by omega) (by omega)), h0.E.same (fun a _ _ => r3 a (by omega) (by omega)), r3⟩
theorem znx_lt (h : zFul Z I t u v τ Λ b ρ n nx hs sl kt A) : znxt nx < 30 := by have := h.2.1.2.2.1.2; unfold znxt; split <;> omega
theorem X_wind (h : zFul Z I t u v τ Λ b ρ n nx hs sl kt A) (hb : b + 2000 < 500000000) (x : Int32) : zX kX11_wind kX12_wind [some (.ref 0), some (.int x)] [some (.ref 420), some (.int x)] Z I J t u v τ Λ b := by
  have h0 := h.1
  have h7 := h0.n7
  have ht3 := h0.t3
  by_cases hx : zism τ x
  · obtain ⟨m, hm, rfl⟩ := (zism_iff h7 x).mp hx
    have cl := C_canTakeUp (d := 7) (J := J) (ly_d47 h0.L) h0.W h0.C h0.D h0.B hm
    by_cases hc : zcanW τ ρ m
    · obtain ⟨I1, r1, r2, hS1, hT1, hE1, r3⟩ := X_rem (d := 6) (J := J) h
      obtain ⟨I2, l1, l2, l3⟩ := (C_takeUp (d := 6) (J := J) h0.L (ly_d47 h0.L) hS1 (by decide) h0.W hE1.1 h0.D h0.B hm).1 hc
      have fr : ∀ a, ¬ (47 ≤ a ∧ a ≤ 56) → a ≠ 67 → ¬ (71 ≤ a ∧ a ≤ 370) → I2 a = I a := fun a p1 p2 p3 => (l3.1 a (by omega)).trans (r3 a p2 p3)
      have hM2 : zMT I2 v τ Λ := h0.M.same (by rw [fr 420 (by decide) (by decide) (by decide)]) (fun a _ _ => fr a (by omega) (by omega) (by omega))
      obtain ⟨I3, c1, c2, c3, c4⟩ := M_copies' (d := 9) (J := J) h0.L (I := I2) (ρ := ρ) (fun k hk => by rw [fr 457 (by decide) (by decide) (by decide)]; exact h0.R k hk)
      have hM3 : zMT I3 v τ Λ := hM2.same (by rw [c4 420 (by decide) (by decide)]) (fun a _ _ => c4 a (by omega) (by omega))
      obtain ⟨I4, s1, s2, s3⟩ := (M_winds (d := 8) (J := J) h0.L h0.W hM3 c2 h0.B h0.D hm).1 hc
      obtain ⟨I5, k1, k2, k3⟩ := X_keep (d := 8) (J := J) h hb (hE1.fd l3 l2 (zunl_28 (by omega))) (r2.same (znx_lt h) (l3.1 67 (by decide)) (fun a p1 p2 => l3.1 a (by omega))) (fun a p1 p2 p3 _ _ => fr a p1 p2 p3) s2 (fun a p1 p2 p3 p4 p5 => (s3.row p1 p2 p3 p4).trans (c4 a p4 p5)) (fun k p => (s3.2 k (by simpa using p)).trans (by rw [c4 420 (by decide) (by decide)])) (zRb_unl h0.bd h0.D h0.W hm hc.1 hc.2.1) (by omega) (zDW_unl h0.W h0.D hm hc.1 hc.2.1)
      exact ⟨1, I2, I5, BX11_wind_0 (d := 6) _ h0.L ⟨_, C_isMan h0.L h7 h0.men, fun q => absurd hx (zbi_eq0.mp q), fun _ => ⟨_, cl, fun _ => ⟨I1, r1, _, I2, l1, rfl⟩, fun q => absurd hc (zbi_eq0.mp q)⟩⟩, BX12_wind_0 (d := 8) _ h0.L ⟨_, M_isMan h0.L h0.W hM2, fun _ => ⟨I3, c1, _, I4, s1, fun _ => ⟨I5, k1, rfl⟩, fun q => absurd q (by decide)⟩, fun q => absurd hx (zbi_eq0.mp q)⟩, _, _, _, _, _, _, _, k3⟩
    · refine zX.q h hb (zQ2.of h0 0 ⟨I, BX11_wind_0 (d := 6) _ h0.L ⟨_, C_isMan h0.L h7 h0.men, fun _ => rfl, fun _ => ⟨_, cl, fun q => absurd (zbi_eq0.mpr hc) q, fun _ => rfl⟩⟩, zscr.rf⟩ (fun I1 h1 => ?_))
      obtain ⟨I3, c1, c2, c3, c4, c5⟩ := M_cop (d := 9) (J := J) h1
      have s1 := (M_winds (d := 8) (J := J) c2.L c2.W c2.M c3 c2.B c2.D hm).2 hc
      exact ⟨I3, BX12_wind_0 (d := 8) _ h1.L ⟨_, M_isMan h1.L h1.W h1.M, fun _ => ⟨I3, c1, _, I3, s1, fun q => absurd rfl q, fun _ => rfl⟩, fun q => absurd hx (zbi_eq0.mp q)⟩, c5⟩
  · exact zX.q h hb (zQ2.of h0 0 ⟨I, BX11_wind_0 (d := 6) _ h0.L ⟨_, C_isMan h0.L h7 h0.men, fun _ => rfl, fun q => absurd (zbi_eq0.mpr hx) q⟩, zscr.rf⟩ (fun I1 h1 => ⟨I1, BX12_wind_0 (d := 8) _ h1.L ⟨_, M_isMan h1.L h1.W h1.M, fun q => absurd (zbi_eq0.mpr hx) q, fun _ => rfl⟩, zscr.rf⟩))
theorem X_cut (h : zFul Z I t u v τ Λ b ρ n nx hs sl kt A) (hb : b + 2000 < 500000000) (x : Int32) : zX kX11_cut kX12_cut [some (.ref 0), some (.int x)] [some (.ref 420), some (.int x), none] Z I J t u v τ Λ b := by
  have h0 := h.1
  have h7 := h0.n7
  have ht3 := h0.t3
  by_cases hx : zism τ x
  · obtain ⟨m, hm, rfl⟩ := (zism_iff h7 x).mp hx
    have a4 : zat I (47 + 4) 7 (nI m) = nI (ρ (21 + m)) := by rw [zatI (by omega) (by decide), (h0.C.2.1 m hm).2.2.2]
    have v21 : vp_in ((21 : Int32) + nI m) 1290 := by rw [zk_21]; exact zvin (by omega) (by decide)
    have v14 : vp_in ((14 : Int32) + nI m) 1290 := by rw [zk_14]; exact zvin (by omega) (by decide)
    have r21 : ∀ I1 : zI, zRM I1 457 0 ρ → I1 457 ((21 : Int32) + nI m).toNatClampNeg = nI (ρ (21 + m)) := fun I1 hR => by rw [zk_21, zclm (by omega)]; exact hR.at (by omega)
    have le1 := (h0.D.1 m hm).2.2.2.1
    by_cases hc : ρ (21 + m) = 0
    · obtain ⟨I1, r1, r2, hS1, hT1, hE1, r3⟩ := X_rem (d := 6) (J := J) h
      obtain ⟨I2, l1, l2, l3⟩ := C_lose (d := 7) (J := J) (ly_d47 h0.L) h0.W h0.D hE1.1 hm
      have fr : ∀ a, ¬ (47 ≤ a ∧ a ≤ 56) → a ≠ 67 → ¬ (71 ≤ a ∧ a ≤ 370) → I2 a = I a := fun a p1 p2 p3 => (l3.1 a (by omega)).trans (r3 a p2 p3)
      have hM2 : zMT I2 v τ Λ := h0.M.same (by rw [fr 420 (by decide) (by decide) (by decide)]) (fun a _ _ => fr a (by omega) (by omega) (by omega))
      have hR2 : zRM I2 457 0 ρ := fun k hk => by rw [fr 457 (by decide) (by decide) (by decide)]; exact h0.R k hk
      obtain ⟨I3, c1, c2, c3, c4⟩ := M_copies' (d := 9) (J := J) h0.L (I := I2) (ρ := ρ) hR2
      have s2 : zRM (zu (zu I3 458 (14 + m) (nI 0)) 458 (21 + m) (nI 1)) 458 0 (zlos ρ m) := (c2.put (k := 14 + m) (v := 0)).put
      obtain ⟨I5, k1, k2, k3⟩ := X_keep (d := 8) (J := J) h hb (hE1.fd l3 l2 (zlos_28 (by omega))) (r2.same (znx_lt h) (l3.1 67 (by decide)) (fun a p1 p2 => l3.1 a (by omega))) (fun a p1 p2 p3 _ _ => fr a p1 p2 p3) s2 (fun a p1 p2 p3 p4 p5 => by rw [zu_ne p4, zu_ne p4, c4 a p4 p5]) (fun k p => by rw [zu_ne (by decide), zu_ne (by decide), c4 420 (by decide) (by decide)]) (zRb_los h0.bd (by omega)) (by omega) (zDW_los h0.W h0.D hm)
      refine ⟨nI (ρ (14 + m)), I2, I5, BX11_cut_0 (d := 6) _ h0.L ⟨_, C_isMan h0.L h7 h0.men, fun q => absurd hx (zbi_eq0.mp q), fun _ => ⟨fun _ => ⟨I1, r1, _, I2, l1, rfl⟩, fun q => absurd (by rw [a4, hc]; rfl) q⟩⟩, BX12_cut_0 (d := 8) _ h0.L ⟨_, M_isMan h0.L h0.W hM2, fun q => absurd hx (zbi_eq0.mp q), fun _ => ⟨v21, fun _ => ⟨I3, c1, v14, fun y3 e3 => ⟨v14, fun I6 e6 => ⟨v21, fun I7 e7 => ⟨I5, ?_, ?_⟩⟩⟩⟩, fun q => ?_⟩⟩, _, _, _, _, _, _, _, k3⟩
      · rw [zk_14, zclm (by omega)] at e6
        rw [zk_21, zclm (by omega), e6] at e7
        rw [e7]; exact k1
      · rw [zk_14, zclm (by omega), c2.at (by omega)] at e3
        rw [e3]
      · exfalso; rw [r21 I2 hR2, hc] at q; exact absurd q (by decide)
    · have e1 : ρ (21 + m) = 1 := by omega
      refine zX.q h hb (zQ2.of h0 (-1) ⟨I, BX11_cut_0 (d := 6) _ h0.L ⟨_, C_isMan h0.L h7 h0.men, fun _ => rfl, fun _ => ⟨fun q => ?_, fun _ => rfl⟩⟩, zscr.rf⟩ (fun I1 h1 => ⟨I1, BX12_cut_0 (d := 8) _ h1.L ⟨_, M_isMan h1.L h1.W h1.M, fun _ => rfl, fun _ => ⟨v21, fun q => absurd (by rw [r21 I1 h1.R, e1]; rfl) q, fun _ => rfl⟩⟩, zscr.rf⟩))
      exfalso; rw [a4, e1] at q; exact absurd q (by decide)
  · exact zX.q h hb (zQ2.of h0 (-1) ⟨I, BX11_cut_0 (d := 6) _ h0.L ⟨_, C_isMan h0.L h7 h0.men, fun _ => rfl, fun q => absurd (zbi_eq0.mpr hx) q⟩, zscr.rf⟩ (fun I1 h1 => ⟨I1, BX12_cut_0 (d := 8) _ h1.L ⟨_, M_isMan h1.L h1.W h1.M, fun _ => rfl, fun q => absurd (zbi_eq0.mpr hx) q⟩, zscr.rf⟩))
end
