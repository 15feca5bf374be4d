/-! read, on both sides -/
section
variable {Z : zZ} {I : zI} {J : zJ} {t u v b n nx kt : Nat} {τ : Nat → Nat → Nat} {Λ : Nat → Option zLaw} {ρ : Nat → Nat} {hs : Nat → Nat → Nat} {sl : Nat → Option (Nat → Nat)} {A : Nat → Nat × Nat × Bool}
theorem zMT_t9 {s : Nat} (h : zMT I s τ Λ) : zMT I s (zt9 τ Λ) Λ := by
  unfold zMT at h ⊢
  rw [zt9_b (b := 0) (by decide), zt9_b (b := 1) (by decide), zt9_b (b := 2) (by decide), zt9_b (b := 3) (by decide), zt9_b (b := 4) (by decide), zt9_b (b := 5) (by decide), zt9_b (b := 6) (by decide), zt9_b (b := 7) (by decide), zt9_b (b := 8) (by decide)]
  exact h
theorem zMX.rows {I' : zI} {s br cd : Nat} (h : zMX I s br cd τ Λ) (row : ∀ a, 429 ≤ a → a ≤ 453 → I' a = I a) : zMX I' s br cd τ Λ := by
  obtain ⟨d1, d2, d3, d4, d5, d6, d7⟩ := h
  unfold zMX
  rw [row 431 (by decide) (by decide), row 429 (by decide) (by decide), row 430 (by decide) (by decide), row 441 (by decide) (by decide), row 438 (by decide) (by decide), row 432 (by decide) (by decide), row 433 (by decide) (by decide), row 434 (by decide) (by decide), row 435 (by decide) (by decide), row 436 (by decide) (by decide), row 437 (by decide) (by decide), row 439 (by decide) (by decide), row 440 (by decide) (by decide)]
  exact ⟨d1, d2, d3, d4, d5, d6, fun p hp => (d7 p hp).rows (fun a p q => row a (by omega) q)⟩
/-- the reference's read, up to its end -/
theorem M_readTo {L s : Nat} {B : Nat → Nat} (hL : zLY Z t u) (hv : v < 2) (hs : s = 1 - v) (h18 : I 420 18 = nI v) (hLL : L ≤ 2000) (h2 : I 420 2 = nI L) (hb : ∀ i, i < L → B i < 256 ∧ I 421 i &&& 255 = nI (B i)) (hK : zKm J) (hD : zDr I) : ∃ I' J', (∀ o, zE 10 kX12_read 217 [some (.ref 420), none] [] Z I' J' o → zE 10 kX12_read 0 [some (.ref 420), none] [] Z I J o) ∧ zfH s I I' ∧ (I' 420 2 = 0 ∧ I' 420 19 = nI s ∧ zDr I') ∧ (∀ a, a ≠ 426 → a ≠ 428 → J' a = J a) ∧ match zfin (zrdS B L) with
    | .error e => (1 ≤ e.1 ∧ e.1 ≤ 6) ∧ (I' 420 13 = nI e.1 ∧ I' 420 14 = nI (zplc B L e.2) ∨ I' 420 13 = 0 ∧ I' 420 15 = nI e.1 ∧ I' 420 16 = nI (zplc B L e.2))
    | .ok _ => (I' 420 13 = 0 ∧ I' 420 15 = 0) ∧ ∃ br cd, br ≤ 130 ∧ cd ≤ 420 ∧ zMX I' s br cd (zrdS B L).2.2.1 (zrdS B L).2.2.2.1 := by
  have hs2 : s < 2 := by omega
  have hMB := zMB_tok (fun i hi => (hb i hi).1) hLL
  obtain ⟨I1, J1, a1, a2, a3, a4, a5, a6⟩ := M_head (d := 3) (B := B) hL hv hs h18 hLL h2 hb hK hD (fun _ => (0, 0, 0))
  obtain ⟨I2, J2, b1, ⟨b2, b3⟩, b4⟩ := M_tells (d := 3) hL hs2 hMB 401 _ I1 J1 a2 (fun _ _ _ => rfl) a3 (fun t0 _ => by omega)
  have b4' : zMS I2 J2 s (zknd B L) (zplc B L) (znam B L) (zx27 B L) (zrdS B L) := b4
  obtain ⟨I3, c1, c2, c3⟩ := M_corners (d := 3) hL hs2 (a2.fS b2 b3) hMB zrd_G b4'
  refine ⟨I3, J2, fun o ho => a1 o (b1 o (c1 o ho)), (a4.tr b2.H).tr (c2.H (by decide)), ⟨by rw [c2.2 2 (by decide), b2.2.1 2 (by decide)]; exact a5, by rw [c2.2 19 (by decide)]; exact b4'.2.1.1, b4'.2.1.2.1.row (c2.1 432 (by decide)) (c2.1 433 (by decide))⟩, fun a p q => by rw [b3 a q, a6 a p], ?_⟩
  cases hz : zfin (zrdS B L) with
  | error e => rw [hz] at c3; exact c3
  | ok t1 =>
    rw [hz] at c3
    obtain ⟨br, cd, ⟨q1, q2, -⟩, q3, -⟩ := b4'.2.2 t1 (zfin_ok hz)
    have ht : t1 ≤ 400 := by
      have := b4'.1.1
      rw [zfin_ok hz] at this
      exact this.1.1
    exact ⟨c3, br, cd, by omega, by omega, q3.rows (fun a p q => c2.1 a (by omega))⟩
theorem X_read (h : zFul Z I t u v τ Λ b ρ n nx hs sl kt A) (hb : b + 2000 < 500000000) (hK : zKc J) (hK' : zKm J) : ∃ (r : Int32) (Z1 : zZ) (I1 I2 : zI) (J1 J2 : zJ), zE 10 kX11_read 0 [some (.ref 0), none, none] [] Z I J (some (.int r), Z1, I1, J1) ∧ zE 10 kX12_read 0 [some (.ref 420), none] [] Z1 I1 J1 (some (.int r), Z1, I2, J2) ∧ (zKc J2 ∧ zKm J2) ∧ (Z1.1 = Z.1 ∧ Z1.2.1 = Z.2.1 ∧ Z1.2.2.1 = Z.2.2.1) ∧ ∃ (t' u' v' : Nat) (τ' : Nat → Nat → Nat) (Λ' : Nat → Option zLaw) (ρ' : Nat → Nat) (n' nx' : Nat) (hs' : Nat → Nat → Nat) (sl' : Nat → Option (Nat → Nat)) (kt' : Nat) (A' : Nat → Nat × Nat × Bool), zFul Z1 I2 t' u' v' τ' Λ' (b + 2000) ρ' n' nx' hs' sl' kt' A' := by
  obtain ⟨a1, ⟨a2, a3, a4⟩, ⟨a5, a6, a7⟩, a8, a9, a10, ⟨L, B, ⟨l1, l2, l3⟩, l4⟩, a12, a13, a14⟩ := h
  have hL := a1.L
  have htu := a1.tu
  have hu : u = 3 ∨ u = 30 := by omega
  have hv : v < 2 := a1.M.1.1
  have h18 : I 420 18 = nI v := a1.M.1.2
  have hBc : zBc I B L := ⟨l1, fun i hi => ⟨(l4 i hi).1, (l4 i hi).2.1⟩⟩
  obtain ⟨r, Z1, I1, J1, c1, c2, c3⟩ := C_read (DX := (zrdS B L).2.2.1 1) (DY := (zrdS B L).2.2.1 2) (ρ := ρ) hL hu hBc l2 hK a14 (fun m _ => ⟨rfl, rfl⟩)
  have hKm1 : zKm J1 := fun k hk => by rw [c2 427 (by decide) (by omega)]; exact hK' k hk
  cases hz : zfin (zrdS B L) with
  | error e =>
    rw [hz] at c3
    obtain ⟨⟨rfl, er, e1, e6⟩, f01, f02, f0, fr⟩ := c3
    have q420 : I1 420 = I 420 := fr 420 (by decide) (by decide) (by omega) (by omega)
    obtain ⟨I2, J2, m1, m2, ⟨m3, m4, m5⟩, m6, m7⟩ := M_readTo (B := B) (L := L) hL hv rfl (by rw [q420]; exact h18) l1 (by rw [q420]; exact l3) (fun i hi => ⟨(l4 i hi).1, by rw [fr 421 (by decide) (by decide) (by omega) (by omega)]; exact (l4 i hi).2.2⟩) hKm1 (a9.row (fr 432 (by decide) (by decide) (by omega) (by omega)) (fr 433 (by decide) (by decide) (by omega) (by omega)))
    rw [hz] at m7
    have ef := M_endF (d := 3) (J := J2) hL m7.1 m7.2
    obtain ⟨I3, e3⟩ : ∃ I3 : zI, I3 = zu I2 420 17 (nI (zplc B L e.2)) := ⟨_, rfl⟩
    rw [← e3] at ef
    have r3 : ∀ a, a ≠ 420 → I3 a = I2 a := fun a p => by rw [e3, zu_ne p]
    have row : ∀ a, a ≠ 0 → a ≠ 2 → ¬ (20 ≤ a ∧ a ≤ 29) → ¬ (u ≤ a ∧ a ≤ u + 16) → a ≠ 420 → ¬ (422 ≤ a ∧ a ≤ 425) → ¬ (429 ≤ a ∧ a ≤ 454) → I3 a = I a := fun a p1 p2 p3 p4 p5 p6 p7 => by rw [r3 a p5, m2.1 a p5 p6 p7, fr a p1 p2 p3 p4]
    have fld : ∀ k, k ≠ 17 → k ∉ [2, 4, 10, 11, 12, 13, 14, 15, 16, 19, 20, 35, 41, 47, 51] → I3 420 k = I 420 k := fun k p q => by rw [e3, zu_k p, m2.2.1 k q, q420]
    have z0 : ∀ k, k ≠ 1 → k ≠ 2 → I3 0 k = I 0 k := fun k p q => by rw [r3 0 (by decide), m2.1 0 (by decide) (by decide) (by decide), f0 k p q]
    have n420 : ∀ a, a ≠ 420 → I3 a = I2 a := r3
    have M1 : zMT I1 v τ Λ := a1.M.same (by rw [q420]) (fun a p q => fr a (by omega) (by omega) (by omega) (by omega))
    have H1 : zHv I1 v (τ 0 0) Λ := a13.same (fun a p q => fr a (by omega) (by omega) (by omega) (by omega))
    have M3 : zMT I3 v τ Λ := (zMT_side M1 H1 a1.W rfl m2).same (by rw [e3, zu_k (by decide)]) (fun a p q => r3 a (by omega))
    have H3 : zHv I3 v (τ 0 0) Λ := (zHv_side H1 a1.n7 hv rfl m2).same (fun a p q => r3 a (by omega))
    have x01 : I3 0 1 = 0 := by rw [r3 0 (by decide), m2.1 0 (by decide) (by decide) (by decide)]; exact f01
    have x02 : I3 0 2 = nI (zplc B L e.2) := by rw [r3 0 (by decide), m2.1 0 (by decide) (by decide) (by decide)]; exact f02
    have x2 : I3 420 2 = 0 := by rw [e3, zu_k (by decide)]; exact m3
    exact ⟨r, Z1, I1, I3, J1, J2, c1, by rw [er]; exact m1 _ ef, ⟨fun k hk => by rw [m6 25 (by decide) (by decide), c2 25 (by decide) (by omega)]; exact hK k hk, fun k hk => by rw [m6 427 (by decide) (by decide)]; exact hKm1 k hk⟩, ⟨rfl, rfl, rfl⟩, t, u, v, τ, Λ, ρ, n, nx, hs, sl, kt, A,
      ⟨⟨hL, hb⟩, a1.W, M3, a1.T.same (fun a p q _ _ => row a (by omega) (by omega) (by omega) (by omega) (by omega) (by omega) (by omega)), a1.S.same (row _ (by decide) (by decide) (by decide) (by omega) (by decide) (by decide) (by decide)) (row _ (by decide) (by decide) (by decide) (by omega) (by decide) (by decide) (by decide)), fun k hk => by rw [row 457 (by decide) (by decide) (by decide) (by omega) (by decide) (by decide) (by decide)]; exact a1.R k hk, a1.bd.mono (by omega), a1.D, a1.E.same (fun a p q => row a (by omega) (by omega) (by omega) (by omega) (by omega) (by omega) (by omega))⟩,
      ⟨a2.same a4.1.2 (row 67 (by decide) (by decide) (by decide) (by omega) (by decide) (by decide) (by decide)) (fun a p q => row a (by omega) (by omega) (by omega) (by omega) (by omega) (by omega) (by omega)), a3.same (fld 58 (by decide) (by decide)) (row 460 (by decide) (by decide) (by decide) (by omega) (by decide) (by decide) (by decide)), a4.mono (by omega)⟩,
      ⟨a5.same (fun a p => row a (by omega) (by omega) (by omega) (by omega) (by omega) (by omega) (by omega)), a6.same (row 471 (by decide) (by decide) (by decide) (by omega) (by decide) (by decide) (by decide)) (row 472 (by decide) (by decide) (by decide) (by omega) (by decide) (by decide) (by decide)), a7.mono (by omega)⟩,
      a8.same (fun a p q => row a (by omega) (by omega) (by omega) (by omega) (by omega) (by omega) (by omega)) (fld 69 (by decide) (by decide)) (fun a p q => row a (by omega) (by omega) (by omega) (by omega) (by omega) (by omega) (by omega)),
      m5.row (r3 432 (by decide)) (r3 433 (by decide)), a10.same (row 458 (by decide) (by decide) (by decide) (by omega) (by decide) (by decide) (by decide)), ⟨0, fun _ => 0, ⟨by decide, x01, x2⟩, fun i hi => absurd hi (Nat.not_lt_zero _)⟩, by rw [x02, e3, zu_eq], H3, a14.same (row 1000006 (by decide) (by decide) (by decide) (by omega) (by decide) (by decide) (by decide))⟩
  | ok t1 =>
    rw [hz] at c3
    obtain ⟨⟨rfl, er⟩, ⟨k1, k2⟩, ⟨k3, k4, k5⟩, ⟨k6, k7, k8⟩, ⟨k9, k10⟩, f01, f02, f0, fr⟩ := c3
    have hL1 := zLY_swap hL
    have q420 : I1 420 = I 420 := fr 420 (by decide) (by decide) (by omega) (by omega) (by omega) (by decide) (by decide) (by decide)
    obtain ⟨I2, J2, m1, m2, ⟨m3, m4, m5⟩, m6, m7⟩ := M_readTo (B := B) (L := L) hL1 hv rfl (by rw [q420]; exact h18) l1 (by rw [q420]; exact l3) (fun i hi => ⟨(l4 i hi).1, by rw [fr 421 (by decide) (by decide) (by omega) (by omega) (by omega) (by decide) (by decide) (by decide)]; exact (l4 i hi).2.2⟩) hKm1 (a9.row (fr 432 (by decide) (by decide) (by omega) (by omega) (by omega) (by decide) (by decide) (by decide)) (fr 433 (by decide) (by decide) (by omega) (by omega) (by omega) (by decide) (by decide) (by decide)))
    rw [hz] at m7
    obtain ⟨⟨m13, m15⟩, br, cd, mb, mc, mX⟩ := m7
    obtain ⟨s, es⟩ : ∃ s, s = 1 - v := ⟨_, rfl⟩
    rw [← es] at m2 m4 mX
    have hs2 : s < 2 := by omega
    obtain ⟨τs, eτ⟩ : ∃ x, x = (zrdS B L).2.2.1 := ⟨_, rfl⟩
    obtain ⟨Λs, eΛ⟩ : ∃ x, x = (zrdS B L).2.2.2.1 := ⟨_, rfl⟩
    rw [← eτ, ← eΛ] at k1 k2 mX
    rw [← eτ, ← eΛ] at k3
    obtain ⟨DX, DY, hDD⟩ := m5.ex hs2
    have w458 : I2 458 = I 458 := by rw [m2.1 458 (by decide) (by decide) (by decide), fr 458 (by decide) (by decide) (by omega) (by omega) (by omega) (by decide) (by decide) (by decide)]
    obtain ⟨ρ6, h6⟩ : ∃ ρ6 : Nat → Nat, ∀ k, k < 1290 → ρ6 k ≤ 600000000 ∧ I 458 k = nI (ρ6 k) := ⟨fun k => (I 458 k).toNatClampNeg, fun k hk => by
      obtain ⟨x, x1, x2⟩ := a10 k hk
      dsimp only
      rw [x2, zclm (by omega)]; exact ⟨x1, rfl⟩⟩
    obtain ⟨I3, d1, d2, d3, d4, ⟨d5, d6, d7, d8⟩, d9, d10⟩ := M_endO (d := 3) (J := J2) (ρ := ρ6) (DX := DX) (DY := DY) hL1 hs2 m13 m15 m4 (fun m hm => ⟨(hDD m hm).2.2.1, (hDD m hm).2.2.2⟩) (fun k hk => by rw [w458, Nat.zero_add]; exact (h6 k hk).2)
    have n0 : zt9 τs Λs 0 = τs 0 := zt9_b (by decide)
    have h7 : τs 0 0 ≤ 7 := mX.1.1
    have hDx : ∀ m, m < τs 0 0 → DX m = τs 1 m ∧ DY m = τs 2 m := fun m hm => by
      obtain ⟨p1, p2, p3, p4⟩ := hDD m (by omega)
      obtain ⟨q1, q2, -, -⟩ := mX.2.2.1 m hm
      have := k2.2.1 m (by rw [n0]; exact hm)
      rw [n0, zt9_b (b := 1) (by decide), zt9_b (b := 2) (by decide)] at this
      have := k2.1
      rw [n0] at this
      rw [p3, zeq (by omega) (by omega)] at q1
      rw [p4, zeq (by omega) (by omega)] at q2
      exact ⟨q1, q2⟩
    have hDx' : ∀ m, m < zt9 τs Λs 0 0 → DX m = zt9 τs Λs 1 m ∧ DY m = zt9 τs Λs 2 m := fun m hm => by
      rw [zt9_b (b := 1) (by decide), zt9_b (b := 2) (by decide)]; rw [n0] at hm; exact hDx m hm
    have rI : ∀ a, a ≠ 420 → a ≠ 457 → a ≠ 458 → a ≠ 459 → a ≠ 471 → ¬ (422 ≤ a ∧ a ≤ 425) → ¬ (429 ≤ a ∧ a ≤ 454) → I3 a = I1 a := fun a p1 p2 p3 p4 p5 p6 p7 => by rw [d10 a p1 p2 p3 p4 p5, m2.1 a p1 p6 p7]
    have mX3 : zMX I3 s br cd τs Λs := mX.rows (fun a p q => d10 a (by omega) (by omega) (by omega) (by omega) (by omega))
    have bd6 : zRb (b + 2000) (zbg DX DY ρ6) := zRb_bg2 (by have := a1.bd.1; omega) (fun k hk => (h6 k hk).1) (fun m hm => ⟨(hDD m hm).1, (hDD m hm).2.1⟩)
    have cd3 : zCD I3 47 (zt9 τs Λs) (zbg DX DY ρ6) := (zCD_bg (DX' := DX) (DY' := DY) (ρ' := ρ6) (by rw [n0]; exact h7) k3 (fun m hm => by rw [n0] at hm; exact hDx m hm)).same (fun a p q => rI a (by omega) (by omega) (by omega) (by omega) (by omega) (by omega) (by omega))
    have i55 : I3 55 0 = 0 := by
      rw [rI 55 (by decide) (by decide) (by decide) (by decide) (by decide) (by decide) (by decide), k5]; exact a1.E.2.2
    have x2 : I3 420 2 = 0 := by rw [d9 2 (by decide) (by decide) (by decide) (by decide)]; exact m3
    refine ⟨r, _, I1, I3, J1, J2, c1, by rw [er]; exact m1 _ d1, ⟨fun k hk => by rw [m6 25 (by decide) (by decide), c2 25 (by decide) (by omega)]; exact hK k hk, fun k hk => by rw [m6 427 (by decide) (by decide)]; exact hKm1 k hk⟩, ⟨rfl, rfl, rfl⟩, u, t, s, zt9 τs Λs, Λs, zbg DX DY ρ6, 0, nx, fun _ _ => 0, fun _ => none, 0, fun _ => (0, 0, false),
      ⟨⟨hL1, hb⟩, k2, zMT_t9 (mX3.mt hs2 d6 mc), k1.same (fun a p q _ _ => rI a (by omega) (by omega) (by omega) (by omega) (by omega) (by omega) (by omega)), a1.S.same (by rw [rI _ (by decide) (by decide) (by decide) (by decide) (by decide) (by decide) (by decide), fr _ (by decide) (by decide) (by decide) (by omega) (by decide) (by decide) (by decide) (by decide)]) (by rw [rI _ (by decide) (by decide) (by decide) (by decide) (by decide) (by decide) (by decide), fr _ (by decide) (by decide) (by decide) (by omega) (by decide) (by decide) (by decide) (by decide)]), d2, bd6, zDW_bg k2 hDx', ⟨cd3, by rw [rI 47 (by decide) (by decide) (by decide) (by decide) (by decide) (by decide) (by decide), k4, zbg_0 28 (by decide) (by decide)]; rfl, i55⟩⟩,
      ⟨⟨⟨by rw [rI 67 (by decide) (by decide) (by decide) (by decide) (by decide) (by decide) (by decide), k6]; rfl, by rw [rI 67 (by decide) (by decide) (by decide) (by decide) (by decide) (by decide) (by decide), k7 4 (by decide)]; exact a2.1.2⟩, fun i hi => absurd hi (Nat.not_lt_zero _)⟩, ⟨d7, fun i hi => absurd hi (Nat.not_lt_zero _)⟩, ⟨⟨Nat.zero_le _, a4.1.2⟩, fun i hi => absurd hi (Nat.not_lt_zero _)⟩⟩,
      ⟨fun k hk => by show I3 70 k = 0; rw [rI 70 (by decide) (by decide) (by decide) (by decide) (by decide) (by decide) (by decide)]; exact k8 k hk, fun k hk => d4 k hk, fun k hk σ q => absurd q (by simp)⟩,
      ⟨⟨Nat.zero_le _, by rw [rI 415 (by decide) (by decide) (by decide) (by decide) (by decide) (by decide) (by decide), k9]; rfl, d8⟩, fun i hi => absurd hi (Nat.not_lt_zero _)⟩,
      m5.row (d10 432 (by decide) (by decide) (by decide) (by decide) (by decide)) (d10 433 (by decide) (by decide) (by decide) (by decide) (by decide)), zw.of d3 bd6 (by omega), ⟨0, fun _ => 0, ⟨by decide, by rw [rI 0 (by decide) (by decide) (by decide) (by decide) (by decide) (by decide) (by decide)]; exact f01, x2⟩, fun i hi => absurd hi (Nat.not_lt_zero _)⟩, by rw [rI 0 (by decide) (by decide) (by decide) (by decide) (by decide) (by decide) (by decide), f02, d5], by rw [n0]; exact mX3.hv mb mc, a14.same (by rw [rI _ (by decide) (by decide) (by decide) (by decide) (by decide) (by decide) (by decide), fr _ (by decide) (by decide) (by decide) (by omega) (by decide) (by decide) (by decide) (by decide)])⟩
end
