/-! STARTS: the two sides -/
section
variable {d : Nat} {Z : zZ} {J : zJ} {I I' : zI} {t u v b : Nat} {τ : Nat → Nat → Nat} {Λ : Nat → Option zLaw} {ρ ρ' DX DY : Nat → Nat}
theorem zpow_le {mm o : Nat} (hmm : mm ≤ 3) (ho : o ≤ 7) : (mm + 1) ^ o ≤ 16384 := Nat.le_trans (Nat.pow_le_pow_left (show mm + 1 ≤ 4 by omega) o) (Nat.le_trans (Nat.pow_le_pow_right (n := 4) (by decide) ho) (by decide))
theorem zpow_pos (mm o : Nat) : 1 ≤ (mm + 1) ^ o := Nat.one_le_pow _ _ (by omega)
def zfs (t : Nat) (I I' : zI) : Prop := ∀ a, ¬ (57 ≤ a ∧ a ≤ 66) → a ≠ t + 4 → a ≠ t + 5 → a ≠ 419 → I' a = I a
theorem C_rows_loop (hL : zLY Z t u) (ht3 : t = 3 ∨ t = 30) (hW : zTW τ Λ) (hD : ∀ m, m < 7 → DX m ≤ 9999 ∧ DY m ≤ 9999) (hE : ∀ m, m < τ 0 0 → DX m = τ 1 m ∧ DY m = τ 2 m) {kt : Nat} {A : Nat → Nat × Nat × Bool} {mm n k R : Nat} (hmm : mm ≤ 3) (hn : n ≤ 40) (hk : k ≤ kt) (hR : R ≤ 1000) : ∀ (f w c : Nat) (I : zI) (ρ : Nat → Nat), w + f = R → zok6 ρ → zSx I → zCT I t τ Λ → zTd I (τ 0 0) kt A → (∀ m, m < τ 0 0 → I 419 m = nI (zdg (mm + 1) w m)) →
    ∃ I', zE (d + 6) kX9_countRows 62 [some (.ref 415), some (.ref t), some (.ref 57), some (.int (nI mm)), some (.int (nI n)), some (.int (nI k)), some (.int (nI R)), some (.int (nI c)), some (.int (nI w))] [] Z I J (some (.int (nI (zrs τ Λ DX DY A (mm + 1) n k f w ρ c))), Z, I', J) ∧ zfs t I I' := by
  have h7 := hW.1.1
  intro f
  induction f with
  | zero =>
    intro w c I ρ hw h6 hS hT hA hr
    refine ⟨I, BX9_countRows_62 _ _ _ _ _ _ hL (ly_tx hL) (ly_d57 hL) ⟨fun _ => rfl, fun q => ?_⟩, fun _ _ _ _ _ => rfl⟩
    exfalso; apply q; rw [zle' (by omega) (by omega)]; omega
  | succ f ih =>
    intro w c I ρ hw h6 hS hT hA hr
    have n1 : ¬ nI R ≤ nI w := by rw [zle' (by omega) (by omega)]; omega
    have n2 : ¬ (1000 : Int32) ≤ nI w := by rw [show (1000 : Int32) = nI 1000 from rfl, zle' (by decide) (by omega)]; omega
    obtain ⟨r1, r2, r3, r4, r5⟩ := zrow_next (ρ := ρ) hW hD hE h6 (zlmB τ (mm + 1) w) hn
    obtain ⟨I1, g1, g2, g3⟩ := C_play (d := d) (J := J) hL ht3 hW hS hT hD hE h6 (lm := zlmB τ (mm + 1) w) (fun m _ => zlmB_lt (by omega) (by omega)) hn (fun m hm => by rw [hr m hm]; unfold zlmB; rw [if_pos hm])
    have hA1 : zTd I1 (τ 0 0) kt A := hA.sc (zscr.fb g3 ht3)
    have hT1 := hT.b g3 (by omega)
    have hS1 := hS.b g3 (by omega) (by decide)
    have hfit := C_fits (d := d + 3) (J := J) hL hW g2 r3 hA1 hk
    obtain ⟨I2, a1, a2, a3⟩ := C_advance (d := d + 4) (J := J) (I := I1) hL (B := mm + 1) (w := w) (n := τ 0 0) (by omega) (by omega) h7 (fun m hm => by rw [g3 419 (by decide) (by omega) (by omega)]; exact hr m hm)
    have fr : zfs t I I2 := fun a q1 q2 q3 q4 => by rw [a3 a q4, g3 a q1 q2 q3]
    obtain ⟨I', k1, k2⟩ := ih (w + 1) (c + (zfit (zply τ Λ (zlmB τ (mm + 1) w) n (zbg DX DY ρ)) A k 0).toNat) I2 (zply τ Λ (zlmB τ (mm + 1) w) n (zbg DX DY ρ)) (by omega) r5 (hS1.same (a3 _ (by decide)) (a3 _ (by decide))) (hT1.same fun a h1 h2 _ _ => a3 a (by omega)) (hA1.sc (zscr.of fun a p _ => a3 a (fun e => p (by subst e; decide)))) a2
    simp only [zrs]
    generalize hz : zfit (zply τ Λ (zlmB τ (mm + 1) w) n (zbg DX DY ρ)) A k 0 = z at k1 hfit
    have eT : I1 t 2 = nI (τ 0 0) := hT1.1.1
    refine ⟨I', BX9_countRows_62 _ _ _ _ _ _ hL (ly_tx hL) (ly_d57 hL) ⟨fun q => absurd q n1, fun _ => ⟨fun q => absurd q n2, fun _ => ⟨I1, g1, _, hfit, fun q => ⟨I2, by rw [eT]; exact a1, ?_⟩, fun q => ⟨I2, by rw [eT]; exact a1, ?_⟩⟩⟩⟩, fun a q1 q2 q3 q4 => (k2 a q1 q2 q3 q4).trans (fr a q1 q2 q3 q4)⟩
    · cases z with
      | true => exact absurd q (by decide)
      | false => rw [Int32.add_zero, zadd1]; exact k1
    · cases z with
      | true => rw [zadd1, zadd1]; exact k1
      | false => exact absurd rfl q
theorem M_rows_loop (hE : ∀ m, m < τ 0 0 → DX m = τ 1 m ∧ DY m = τ 2 m) {kt : Nat} {A : Nat → Nat × Nat × Bool} {mm n k R : Nat} (hmm : mm ≤ 3) (hn : n ≤ 40) (hk : k ≤ kt) (hR : R ≤ 1000) : ∀ (f w c : Nat) (I : zI) (ρ0 : Nat → Nat), w + f = R → zR0 Z I t u v τ Λ b ρ → zTd I (τ 0 0) kt A → (∀ m, m < 7 → DX m ≤ 9999 ∧ DY m ≤ 9999 ∧ I 432 (7 * v + m) = nI (DX m) ∧ I 433 (7 * v + m) = nI (DY m)) → zRM I 458 0 ρ0 → zok6 ρ0 →
    ∃ I', zE (d + 7) kX12_starts 84 [some (.ref 420), some (.int (nI mm)), some (.int (nI n)), some (.int (nI k)), some (.int (nI R)), some (.int (nI c)), some (.int (nI w))] [] Z I J (some (.int (nI (zrs τ Λ DX DY A (mm + 1) n k f w ρ0 c))), Z, I', J) ∧ zscr I I' := by
  intro f
  induction f with
  | zero =>
    intro w c I ρ0 hw h hA hD hRM h6
    refine ⟨I, BX12_starts_84 _ _ _ _ _ _ h.L ⟨fun _ => rfl, fun q => ?_⟩, zscr.rf⟩
    exfalso; apply q; rw [zle' (by omega) (by omega)]; omega
  | succ f ih =>
    intro w c I ρ0 hw h hA hD hRM h6
    have n1 : ¬ nI R ≤ nI w := by rw [zle' (by omega) (by omega)]; omega
    obtain ⟨-, -, -, -, r5⟩ := zrow_next (ρ := ρ0) h.W (fun m hm => ⟨(hD m hm).1, (hD m hm).2.1⟩) hE h6 (zlmB τ (mm + 1) w) hn
    obtain ⟨I1, g1, g2, g3⟩ := M_isSo (d := d) (J := J) h hD hE hA hRM h6 hmm (show w < 1000000 by omega) hn hk
    obtain ⟨I', k1, k2⟩ := ih (w + 1) (c + (zfit (zply τ Λ (zlmB τ (mm + 1) w) n (zbg DX DY ρ0)) A k 0).toNat) I1 (zply τ Λ (zlmB τ (mm + 1) w) n (zbg DX DY ρ0)) (by omega) (h.sc g3) (hA.sc g3) (fun m hm => by rw [g3.1 432 (by decide) (by decide) (by decide), g3.1 433 (by decide) (by decide) (by decide)]; exact hD m hm) g2 r5
    simp only [zrs]
    generalize hz : zfit (zply τ Λ (zlmB τ (mm + 1) w) n (zbg DX DY ρ0)) A k 0 = z at k1 g1
    refine ⟨I', BX12_starts_84 _ _ _ _ _ _ h.L ⟨fun q => absurd q n1, fun _ => ⟨_, I1, g1, fun q => ?_, fun q => ?_⟩⟩, g3.tr k2⟩
    · cases z with
      | true => exact absurd q (by decide)
      | false => rw [zadd1]; exact k1
    · cases z with
      | true => rw [zadd1, zadd1]; exact k1
      | false => exact absurd rfl q
theorem Q_starts (h : zR0 Z I t u v τ Λ b ρ) (hdr : zDr I) (hw : zw I) {kt : Nat} {A : Nat → Nat × Nat × Bool} (hA : zTd I (τ 0 0) kt A) (x y z : Int32) : zQ2 kX11_starts kX12_starts [some (.ref 0), some (.int x), some (.int y), some (.int z)] [some (.ref 420), some (.int x), some (.int y), some (.int z), none, none, none] Z I J := by
  have h7 := h.n7
  have k12 := hA.1.1
  have inx : ∀ (n : Nat) (x : Int32), n < 100 → (¬ (0 ≤ x ∧ x ≤ nI n) ∧ (x < 0 ∨ ¬ x < 0 ∧ nI n < x)) ∨ ∃ k, k ≤ n ∧ x = nI k := fun n x hn => by
    rcases zix x (n := n + 1) (by omega) with g | ⟨j, hj, rfl⟩
    · left
      rcases g with g | g
      · exact ⟨fun z => absurd g (Int32.not_lt.mpr z.1), Or.inl g⟩
      · by_cases q : x < 0
        · exact ⟨fun z => absurd q (Int32.not_lt.mpr z.1), Or.inl q⟩
        · obtain ⟨j, hj, rfl⟩ := znI_ex x q
          rw [zle' (by omega) hj] at g
          refine ⟨fun z => ?_, Or.inr ⟨q, ?_⟩⟩
          · have := z.2; rw [zle' hj (by omega)] at this; omega
          · rw [zlt (by omega) hj]; omega
    · exact Or.inr ⟨j, by omega, rfl⟩
  have zin : ∀ (n k : Nat), n < 100 → k ≤ n → 0 ≤ nI k ∧ nI k ≤ nI n := fun n k h1 h2 => ⟨znn (by omega), by rw [zle' (by omega) (by omega)]; exact h2⟩
  have a415 : ∀ {I : zI}, zTd I (τ 0 0) kt A → I 415 0 = nI kt := fun {I} h => h.1.2.1
  rcases inx 3 x (by decide) with ⟨nx, nx2⟩ | ⟨mm, hmm, rfl⟩
  · refine zQ2.of h (-1) ⟨I, BX11_starts_0 (d := 3) _ _ _ h.L ⟨fun _ => rfl, fun q => ⟨fun _ => rfl, fun q2 => ?_⟩⟩, zscr.rf⟩ (fun I1 h => ⟨I1, BX12_starts_0 (d := 3) _ _ _ h.L ⟨fun _ => rfl, fun q => absurd (zbi_ne0.mp q) nx⟩, zscr.rf⟩)
    exact absurd ⟨Int32.not_lt.mp q, Int32.not_lt.mp q2⟩ nx
  · have hx1 : ¬ nI mm < 0 := zneg (by omega)
    have hx2 : ¬ (3 : Int32) < nI mm := Int32.not_lt.mpr (zin 3 mm (by decide) hmm).2
    rcases inx 40 y (by decide) with ⟨ny, ny2⟩ | ⟨n, hn, rfl⟩
    · refine zQ2.of h (-1) ⟨I, BX11_starts_0 (d := 3) _ _ _ h.L ⟨fun _ => rfl, fun _ => ⟨fun _ => rfl, fun _ => ⟨fun _ => rfl, fun q => ⟨fun _ => rfl, fun q2 => ?_⟩⟩⟩⟩, zscr.rf⟩ (fun I1 h => ⟨I1, BX12_starts_0 (d := 3) _ _ _ h.L ⟨fun _ => rfl, fun _ => ⟨fun _ => rfl, fun q => absurd (zbi_ne0.mp q) ny⟩⟩, zscr.rf⟩)
      exact absurd ⟨Int32.not_lt.mp q, Int32.not_lt.mp q2⟩ ny
    · have hy1 : ¬ nI n < 0 := zneg (by omega)
      have hy2 : ¬ (40 : Int32) < nI n := Int32.not_lt.mpr (zin 40 n (by decide) hn).2
      have bx := zbi_ne0.mpr (zin 3 mm (by decide) hmm)
      have bY := zbi_ne0.mpr (zin 40 n (by decide) hn)
      rcases inx kt z (by omega) with ⟨nz, nz2⟩ | ⟨k, hk, rfl⟩
      · refine ⟨-1, I, I, BX11_starts_0 (d := 3) _ _ _ h.L ⟨fun _ => rfl, fun _ => ⟨fun _ => rfl, fun _ => ⟨fun _ => rfl, fun _ => ⟨fun _ => rfl, fun _ => ⟨fun _ => rfl, fun q => ⟨fun q2 => ?_, fun _ => rfl⟩⟩⟩⟩⟩⟩, BX12_starts_0 (d := 3) _ _ _ h.L ⟨fun _ => rfl, fun _ => ⟨fun _ => rfl, fun _ => ⟨fun q => ?_, fun _ => rfl⟩⟩⟩, zscr.rf⟩
        · rw [a415 hA] at q2; exact absurd ⟨Int32.not_lt.mp q, q2⟩ nz
        · rw [hA.1.2.2] at q; exact absurd (zbi_ne0.mp q) nz
      · have hz1 : ¬ nI k < 0 := zneg (by omega)
        have hz2 : nI k ≤ I 415 0 := by rw [a415 hA, zle' (by omega) (by omega)]; exact hk
        have bz : ¬ zbi (0 ≤ nI k ∧ nI k ≤ nI kt) = 0 := zbi_ne0.mpr ⟨znn (by omega), by rw [zle' (by omega) (by omega)]; exact hk⟩
        obtain ⟨DX, DY, hD⟩ := hdr.ex h.M.1.1
        have hE : ∀ m, m < τ 0 0 → DX m = τ 1 m ∧ DY m = τ 2 m := fun m hm => by
          obtain ⟨d1, d2, d3, d4⟩ := hD m (by omega)
          obtain ⟨e1, e2, -⟩ := h.M.2.2.1 m hm
          obtain ⟨q1, q2, -⟩ := h.W.2.1 m hm
          have hw1 := h.W.1
          rw [e1, zeq (by omega) (by omega)] at d3
          rw [e2, zeq (by omega) (by omega)] at d4
          exact ⟨d3.symm, d4.symm⟩
        obtain ⟨ρs, hρs⟩ : ∃ ρs : Nat → Nat, ∀ k, k < 1290 → ρs k ≤ 600000000 ∧ I 458 k = nI (ρs k) := ⟨fun k => (I 458 k).toNatClampNeg, fun k hk => by
          obtain ⟨n, h1, h2⟩ := hw k hk
          dsimp only
          rw [h2, zclm (by omega)]; exact ⟨h1, rfl⟩⟩
        obtain ⟨R, hR⟩ : ∃ R, R = (mm + 1) ^ τ 0 0 := ⟨_, rfl⟩
        have hR1 : R ≤ 16384 := by rw [hR]; exact zpow_le hmm h7
        have e1 : nI mm + 1 = nI (mm + 1) := zadd1 mm
        have cl : ∀ oo, zE 9 kX9_countRows 6 [some (.ref 415), some (.ref t), some (.ref 57), some (.int (nI mm)), some (.int (nI n)), some (.int (nI k)), some (.int (nI R)), some (.int (nI (τ 0 0))), none] [] Z I J oo → ∀ o, o ≤ τ 0 0 → zE 9 kX9_countRows 6 [some (.ref 415), some (.ref t), some (.ref 57), some (.int (nI mm)), some (.int (nI n)), some (.int (nI k)), some (.int (nI ((mm + 1) ^ o))), some (.int (nI o)), none] [] Z I J oo := fun oo hoo => by
          refine zloop _ _ ?_ ?_
          · rw [← hR]; exact hoo
          · intro o ho ih
            refine BX9_countRows_6 (d := 3) _ _ _ _ _ h.L (ly_tx h.L) (ly_d57 h.L) ⟨fun q => ?_, fun _ => ?_⟩
            · exfalso; rw [h.men, zle' (by omega) (by omega)] at q; omega
            · rw [e1, zmul, ← Nat.pow_succ, zadd1]; exact ih
        have hmle : I t 2 ≤ nI (τ 0 0) := by rw [h.men]; exact Int32.le_refl _
        have ml : ∀ (I1 : zI), zR0 Z I1 t u v τ Λ b ρ → ∀ oo, zE 10 kX12_starts 39 [some (.ref 420), some (.int (nI mm)), some (.int (nI n)), some (.int (nI k)), some (.int (nI R)), some (.int (nI (τ 0 0))), none] [] Z I1 J oo → ∀ o, o ≤ τ 0 0 → zE 10 kX12_starts 39 [some (.ref 420), some (.int (nI mm)), some (.int (nI n)), some (.int (nI k)), some (.int (nI ((mm + 1) ^ o))), some (.int (nI o)), none] [] Z I1 J oo := fun I1 h1 oo hoo => by
          have hmv := zmv h1
          refine zloop _ _ ?_ ?_
          · rw [← hR]; exact hoo
          · intro o ho ih
            refine BX12_starts_39 (d := 3) _ _ _ _ _ h1.L ⟨hmv.1, fun q => ?_, fun _ => ?_⟩
            · exfalso; rw [hmv.2, zle' (by omega) (by omega)] at q; omega
            · rw [e1, zmul, ← Nat.pow_succ, zadd1]; exact ih
        have cstart : ∀ r I1, zE 9 kX9_countRows 6 [some (.ref 415), some (.ref t), some (.ref 57), some (.int (nI mm)), some (.int (nI n)), some (.int (nI k)), some (.int (nI R)), some (.int (nI (τ 0 0))), none] [] Z I J (some (.int r), Z, I1, J) → zE 10 kX11_starts 0 [some (.ref 0), some (.int (nI mm)), some (.int (nI n)), some (.int (nI k))] [] Z I J (some (.int r), Z, I1, J) := fun r I1 hrun => by
          have hc := cl _ hrun 0 (Nat.zero_le _)
          rw [Nat.pow_zero] at hc
          exact BX11_starts_0 (d := 3) _ _ _ h.L ⟨fun q => absurd q hx1, fun _ => ⟨fun q => absurd q hx2, fun _ => ⟨fun q => absurd q hy1, fun _ => ⟨fun q => absurd q hy2, fun _ => ⟨fun q => absurd q hz1, fun _ => ⟨fun _ => ⟨r, I1, BX9_countRows_0 _ _ _ h.L (ly_tx h.L) (ly_d57 h.L) hc, rfl⟩, fun q => absurd hz2 q⟩⟩⟩⟩⟩⟩
        have mstart : ∀ r (I1 I2 : zI), zR0 Z I1 t u v τ Λ b ρ → zTd I1 (τ 0 0) kt A → zE 10 kX12_starts 39 [some (.ref 420), some (.int (nI mm)), some (.int (nI n)), some (.int (nI k)), some (.int (nI R)), some (.int (nI (τ 0 0))), none] [] Z I1 J (some (.int r), Z, I2, J) → zE 10 kX12_starts 0 [some (.ref 420), some (.int (nI mm)), some (.int (nI n)), some (.int (nI k)), none, none, none] [] Z I1 J (some (.int r), Z, I2, J) := fun r I1 I2 h1 hA1 hrun => by
          have hc := ml I1 h1 _ hrun 0 (Nat.zero_le _)
          rw [Nat.pow_zero] at hc
          exact BX12_starts_0 (d := 3) _ _ _ h1.L ⟨fun q => absurd q bx, fun _ => ⟨fun q => absurd q bY, fun _ => ⟨fun _ => hc, fun q => by rw [hA1.1.2.2] at q; exact absurd q bz⟩⟩⟩
        by_cases hb : R ≤ 1000
        · have hRle : nI R ≤ (1000 : Int32) := by rw [show (1000 : Int32) = nI 1000 from rfl, zle' (by omega) (by decide)]; exact hb
          have mrun : ∀ I1, zR0 Z I1 t u v τ Λ b ρ → zTd I1 (τ 0 0) kt A → (∀ m, m < 7 → DX m ≤ 9999 ∧ DY m ≤ 9999 ∧ I1 432 (7 * v + m) = nI (DX m) ∧ I1 433 (7 * v + m) = nI (DY m)) → zRM I1 458 0 ρs → ∃ I2, zE 10 kX12_starts 0 [some (.ref 420), some (.int (nI mm)), some (.int (nI n)), some (.int (nI k)), none, none, none] [] Z I1 J (some (.int (nI (zrs τ Λ DX DY A (mm + 1) n k R 0 ρs 0))), Z, I2, J) ∧ zscr I1 I2 := fun I1 h1 hA1 hD1 hR1 => by
            have hmv := zmv h1
            obtain ⟨I2, k1, k2⟩ := M_rows_loop (d := 3) (J := J) hE hmm hn hk hb R 0 0 I1 ρs (by omega) h1 hA1 hD1 hR1 (fun k hk => (hρs k hk).1)
            exact ⟨I2, mstart _ I1 I2 h1 hA1 (BX12_starts_39 (d := 3) _ _ _ _ _ h1.L ⟨hmv.1, fun _ => ⟨fun _ => k1, fun q => absurd hRle q⟩, fun q => absurd (by rw [hmv.2]; exact Int32.le_refl _) q⟩), k2⟩
          by_cases hk0 : k = 0
          · subst hk0
            obtain ⟨I2, m1, m2⟩ := mrun I h hA hD (fun k hk => by rw [Nat.zero_add]; exact (hρs k hk).2)
            rw [zrs_0, Nat.zero_add] at m1
            exact ⟨nI R, I, I2, cstart _ _ (BX9_countRows_6 (d := 3) _ _ _ _ _ h.L (ly_tx h.L) (ly_d57 h.L) ⟨fun _ => ⟨fun _ => ⟨fun q => absurd rfl q, fun _ => rfl⟩, fun q => absurd hRle q⟩, fun q => absurd hmle q⟩), m1, m2⟩
          · have hfr : ∀ a, a ≠ 419 → zrw I 419 0 (fun _ => 0) 7 a = I a := fun a ha => zrw_ne ha
            have hs0 : zscr I (zrw I 419 0 (fun _ => 0) 7) := zscr.of fun a p _ => hfr a (fun e => p (by subst e; decide))
            have h0 := h.sc hs0
            obtain ⟨I1, c1, c2⟩ := C_rows_loop (d := 3) (J := J) h.L h.t3 h.W (fun m hm => ⟨(hD m hm).1, (hD m hm).2.1⟩) hE hmm hn hk hb R 0 0 (zrw I 419 0 (fun _ => 0) 7) ρs (by omega) (fun k hk => (hρs k hk).1) h0.S h0.T (hA.sc hs0) (fun m hm => by
              rw [zrw_at0 (by omega)]
              unfold zdg
              rw [Nat.zero_div, Nat.zero_mod]; rfl)
            have ht3 := h.t3
            have hs1 : zscr I I1 := hs0.tr (zscr.of fun a p q => c2 a q (fun e => p (by rcases ht3 with rfl | rfl <;> subst e <;> decide)) (fun e => p (by rcases ht3 with rfl | rfl <;> subst e <;> decide)) (fun e => p (by subst e; decide)))
            have e458 : I1 458 = I 458 := (c2 458 (by decide) (by omega) (by omega) (by decide)).trans (hfr 458 (by decide))
            obtain ⟨I2, m1, m2⟩ := mrun I1 (h.sc hs1) (hA.sc hs1) (fun m hm => by rw [hs1.1 432 (by decide) (by decide) (by decide), hs1.1 433 (by decide) (by decide) (by decide)]; exact hD m hm) (fun k hk => by rw [Nat.zero_add, e458]; exact (hρs k hk).2)
            refine ⟨_, I1, I2, cstart _ _ (BX9_countRows_6 (d := 3) _ _ _ _ _ h.L (ly_tx h.L) (ly_d57 h.L) ⟨fun _ => ⟨fun _ => ⟨fun _ => ⟨_, S_fill (by decide) (ly_a419 h.L), c1⟩, fun q => ?_⟩, fun q => absurd hRle q⟩, fun q => absurd hmle q⟩), m1, hs1.tr m2⟩
            rw [zn0 (by omega)] at q; exact absurd q hk0
        · have hRle : ¬ nI R ≤ (1000 : Int32) := by rw [show (1000 : Int32) = nI 1000 from rfl, zle' (by omega) (by decide)]; exact hb
          have hmv := zmv h
          exact ⟨-2, I, I, cstart _ _ (BX9_countRows_6 (d := 3) _ _ _ _ _ h.L (ly_tx h.L) (ly_d57 h.L) ⟨fun _ => ⟨fun q => absurd q hRle, fun _ => rfl⟩, fun q => absurd hmle q⟩), mstart _ I I h hA (BX12_starts_39 (d := 3) _ _ _ _ _ h.L ⟨hmv.1, fun _ => ⟨fun q => absurd q hRle, fun _ => rfl⟩, fun q => absurd (by rw [hmv.2]; exact Int32.le_refl _) q⟩), zscr.rf⟩
end
