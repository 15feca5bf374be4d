/-! DUSK in the reference; the two sides -/
section
variable {d : Nat} {Z : zZ} {J : zJ} {I I' : zI} {t u v b : Nat} {τ : Nat → Nat → Nat} {Λ : Nat → Option zLaw} {ρ : Nat → Nat}
/-- what the reference's DUSK writes -/
abbrev zfk (I I' : zI) : Prop := zfm [455, 456, 458, 465] [54, 64, 65] I I'
theorem zfw.k (h : zfw I I') : zfk I I' := h.mono (by decide) (by decide)
theorem zfl.k (h : zfl I I') : zfk I I' := h.mono (by decide) (by decide)
theorem zMT.k (h : zMT I v τ Λ) (hf : zfk I I') : zMT I' v τ Λ := h.same (hf.2 18 (by decide)) (fun a h1 h2 => hf.1 a (by omega) (by simp; omega))
theorem M_pick (hL : zLY Z t u) (hW : zTW τ Λ) (hM : zMT I v τ Λ) {K : Nat → Nat} {D x2 x4 : Nat} {x1 : Int32} (hD : D < 128) (hK : ∀ m w, m < τ 0 0 → w < τ 0 0 → (I 465 m ≤ I 465 w ↔ K m ≤ K w)) {w : Nat} (hw : zgp K D (τ 0 0) = some w) {o : zO} (ho : zE (d + 4) kX12_duskBy 201 [some (.ref 420), some (.int x1), some (.int (nI x2)), some (.int (nI D)), some (.int (nI x4)), some (.int (nI w)), some (.int (nI (τ 0 0)))] [] Z I J o) : zE (d + 4) kX12_duskBy 201 [some (.ref 420), some (.int x1), some (.int (nI x2)), some (.int (nI D)), some (.int (nI x4)), some (.int (-1)), some (.int (nI 0))] [] Z I J o := by
  have h7 := hW.1.1
  have hv2 := hM.1.1
  have vl : vp_in (I 420 18) 2 := by rw [hM.1.2]; exact zvin hv2 (by decide)
  have n0 : I 431 (I 420 18).toNatClampNeg = nI (τ 0 0) := by rw [hM.1.2, zclm (by omega)]; exact hM.2.1.1
  have loop : ∀ m, m ≤ τ 0 0 → zE (d + 4) kX12_duskBy 201 [some (.ref 420), some (.int x1), some (.int (nI x2)), some (.int (nI D)), some (.int (nI x4)), some (.int (match zgp K D m with | none => -1 | some w => nI w)), some (.int (nI m))] [] Z I J o := by
    refine zloop _ _ ?_ ?_
    · rw [hw]; exact ho
    · intro m hm ih
      have hbt := zb_bit0 (m := m) hD (by omega)
      simp only [zgp] at ih
      refine BX12_duskBy_201 _ _ _ _ _ _ hL ⟨vl, fun q => ?_, fun _ => ⟨fun q => ?_, fun q => ⟨fun q2 => ?_, fun q2 => ?_⟩⟩⟩
      · exfalso; rw [n0, zle' (by omega) (by omega)] at q; omega
      all_goals rw [hbt] at q
      · rw [if_pos (by simpa using q)] at ih; rw [zadd1]; exact ih
      all_goals rw [if_neg (by simpa using q)] at ih
      · cases hz : zgp K D m with
        | none => rw [hz] at ih; rw [zadd1]; exact ih
        | some w' =>
          have hb := zgp_some hz
          rw [hz] at q2
          exact absurd q2 (zneg (by omega))
      · cases hz : zgp K D m with
        | none => rw [hz] at q2; exact absurd (show (-1 : Int32) < 0 by decide) q2
        | some w' =>
          have hb := zgp_some hz
          rw [hz] at ih
          simp only at ih ⊢
          refine ⟨zvin (by omega) (by decide), zvin (by omega) (by decide), fun q3 => ?_, fun q3 => ?_⟩
          all_goals rw [zclm (by omega), zclm (by omega), hK m w' hm (by omega)] at q3
          all_goals rw [zadd1]
          · rw [if_neg (by omega)] at ih; exact ih
          · rw [if_pos (by omega)] at ih; exact ih
  exact loop 0 (Nat.zero_le _)
def zsg (n : Nat) : Nat := if n = 0 then 0 else 1
theorem zsg_0 {n : Nat} (h : n = 0) : zsg n = 0 := if_pos h
theorem zsg_1 {n : Nat} (h : n ≠ 0) : zsg n = 1 := if_neg h
theorem M_wo_loop (hL : zLY Z t u) (hW : zTW τ Λ) {K : Nat → Nat} {x1 : Int32} : ∀ (k i D up up0 b wd g : Nat) (I : zI) (ρ : Nat → Nat), i + k = τ 0 0 → zcd D (τ 0 0) + k = τ 0 0 → D < 128 → b < 900000000 → (∀ m w, m < τ 0 0 → w < τ 0 0 → (I 465 m ≤ I 465 w ↔ K m ≤ K w)) → zMT I v τ Λ → zRM I 458 0 ρ → zDW τ ρ → zRb b ρ → I 420 65 = nI wd → up0 + up = wd → I 420 64 = nI g →
    ∃ IE : zI, zRM IE 458 0 (zwo τ K k D ρ up).2 ∧ IE 420 65 = nI (up0 + (zwo τ K k D ρ up).1) ∧ IE 420 64 = nI (g + zsg (zwo τ K k D ρ up).1) ∧ zfk I IE ∧ ∀ o, zE (d + 4) kX12_duskBy 16 [some (.ref 420), some (.int x1), some (.int (nI (zsg (zwo τ K k D ρ up).1))), none, none, none, none] [] Z IE J o →
    zE (d + 4) kX12_duskBy 181 [some (.ref 420), some (.int x1), some (.int (nI (zsg up))), some (.int (nI D)), some (.int (nI i)), none, none] [] Z I J o := by
  have h7 := hW.1.1
  intro k
  induction k with
  | zero =>
    intro i D up up0 b wd g I ρ hik hcd hD128 hb hK hM hR hD hB hw hu hg
    have hv2 := hM.1.1
    have vl : vp_in (I 420 18) 2 := by rw [hM.1.2]; exact zvin hv2 (by decide)
    have n0 : I 431 (I 420 18).toNatClampNeg = nI (τ 0 0) := by rw [hM.1.2, zclm (by omega)]; exact hM.2.1.1
    have e1 : (zwo τ K 0 D ρ up).1 = up := rfl
    have e2 : (zwo τ K 0 D ρ up).2 = ρ := rfl
    rw [e1, e2]
    by_cases e : up = 0
    · refine ⟨I, hR, by rw [hw, ← hu], by rw [zsg_0 e]; exact hg, zfm.rf, fun o ho => BX12_duskBy_181 _ _ _ _ hL ⟨vl, fun _ => ⟨fun _ => ho, fun q => ?_⟩, fun q => ?_⟩⟩
      · exfalso; rw [zsg_0 e] at q; exact q rfl
      · exfalso; apply q; rw [n0, zle' (by omega) (by omega)]; omega
    · refine ⟨zu I 420 64 (nI (g + 1)), fun a ha => by rw [zu_ne (by decide)]; exact hR a ha, by rw [zu_k (by decide), hw, ← hu], by rw [zsg_1 e, zu_eq], zfm.fld (by decide), fun o ho => BX12_duskBy_181 _ _ _ _ hL ⟨vl, fun _ => ⟨fun q => ?_, fun _ I1 e1 => ?_⟩, fun q => ?_⟩⟩
      · exfalso; rw [zsg_1 e] at q; exact absurd q (by decide)
      · rw [hg, zadd1] at e1; rw [e1]; exact ho
      · exfalso; apply q; rw [n0, zle' (by omega) (by omega)]; omega
  | succ k ih =>
    intro i D up up0 b wd g I ρ hik hcd hD128 hb hK hM hR hD hB hw hu hg
    have hv2 := hM.1.1
    have vl : vp_in (I 420 18) 2 := by rw [hM.1.2]; exact zvin hv2 (by decide)
    have n0 : I 431 (I 420 18).toNatClampNeg = nI (τ 0 0) := by rw [hM.1.2, zclm (by omega)]; exact hM.2.1.1
    have hno : ¬ I 431 (I 420 18).toNatClampNeg ≤ nI i := by rw [n0, zle' (by omega) (by omega)]; omega
    cases hz : zgp K D (τ 0 0) with
    | none => have := zcd_full (zgp_none hz); omega
    | some w =>
      have hww := zgp_some hz
      have hset := zcd_set hww.1 hww.2
      have hwi := M_winds (d := d + 2) (J := J) hL hW hM hR (hB.b (by omega)) hD hww.1
      have pick : ∀ o, (∀ y1, y1 = nI (D ||| 2 ^ w) → ∃ (v2 : Int32) (I3 : zI), zE (d + 3) kX12_winds 0 [some (.ref 420), some (.int (nI w)), none] [] Z I J (some (.int v2), Z, I3, J) ∧ ((¬ v2 = 0 → ∀ I4 : zI, I4 = zu I3 420 65 ((I3 420 65) + 1) → zE (d + 4) kX12_duskBy 181 [some (.ref 420), some (.int x1), some (.int 1), some (.int y1), some (.int (nI i + 1)), none, none] [] Z I4 J o) ∧ (v2 = 0 → zE (d + 4) kX12_duskBy 181 [some (.ref 420), some (.int x1), some (.int (nI (zsg up))), some (.int y1), some (.int (nI i + 1)), none, none] [] Z I3 J o))) → zE (d + 4) kX12_duskBy 181 [some (.ref 420), some (.int x1), some (.int (nI (zsg up))), some (.int (nI D)), some (.int (nI i)), none, none] [] Z I J o := fun o ho =>
        BX12_duskBy_181 _ _ _ _ hL ⟨vl, fun q => absurd q hno, fun _ => M_pick hL hW hM hD128 hK hz (BX12_duskBy_201 _ _ _ _ _ _ hL ⟨vl, fun _ y1 ey => ho y1 (by rw [ey, zb_set hD128 (by omega)]), fun q => absurd (by rw [n0]; exact Int32.le_refl _) q⟩)⟩
      by_cases hc : zcanW τ ρ w
      · obtain ⟨I3, j1, j2, j3⟩ := hwi.1 hc
        have e65 : I3 420 65 = nI wd := (j3.2 65 (by decide)).trans hw
        have e465 : zu I3 420 65 (nI (wd + 1)) 465 = I 465 := by rw [zu_ne (by decide)]; exact j3.1 465 (by decide) (by decide)
        have hf4 : zfk I (zu I3 420 65 (nI (wd + 1))) := j3.k.tr (zfm.fld (by decide))
        have e64 : zu I3 420 65 (nI (wd + 1)) 420 64 = nI g := by rw [zu_k (by decide)]; exact (j3.2 64 (by decide)).trans hg
        obtain ⟨IE, f1, f2, f3, f4, f5⟩ := ih (i + 1) (D ||| 2 ^ w) (up + 1) up0 b (wd + 1) g _ (zunl ρ w) (by omega) (by omega) (zb_lt hD128 (zb_p w (by omega))) hb (by rw [e465]; exact hK) (hM.k hf4) (fun a ha => by rw [zu_ne (by decide)]; exact j2 a ha) (zDW_unl hW hD hww.1 hc.1 hc.2.1) (zRb_unl hB hD hW hww.1 hc.1 hc.2.1) zu_eq (by omega) e64
        have ez : zwo τ K (k + 1) D ρ up = zwo τ K k (D ||| 2 ^ w) (zunl ρ w) (up + 1) := by simp only [zwo]; rw [hz]; simp only; rw [if_pos hc]
        rw [ez]
        refine ⟨IE, f1, f2, f3, hf4.tr f4, fun o ho => pick o (fun y1 ey => ⟨1, I3, j1, fun _ I4 e4 => ?_, fun q => absurd q (by decide)⟩)⟩
        rw [e65, zadd1] at e4
        rw [e4, ey, zadd1]
        have := f5 o ho
        rw [zsg_1 (show up + 1 ≠ 0 by omega)] at this
        exact this
      · obtain ⟨IE, f1, f2, f3, f4, f5⟩ := ih (i + 1) (D ||| 2 ^ w) up up0 b wd g I ρ (by omega) (by omega) (zb_lt hD128 (zb_p w (by omega))) hb hK hM hR hD hB hw hu hg
        have ez : zwo τ K (k + 1) D ρ up = zwo τ K k (D ||| 2 ^ w) ρ up := by simp only [zwo]; rw [hz]; simp only; rw [if_neg hc]
        rw [ez]
        refine ⟨IE, f1, f2, f3, f4, fun o ho => pick o (fun y1 ey => ⟨0, I, hwi.2 hc, fun q => absurd rfl q, fun _ => ?_⟩)⟩
        rw [ey, zadd1]; exact f5 o ho
set_option maxHeartbeats 1000000 in
theorem M_dusk_loop (hL : zLY Z t u) (hW : zTW τ Λ) {rule : Nat} (hr : rule < 5) : ∀ (f g w b : Nat) (I : zI) (ρ : Nat → Nat), zall τ ρ < f → b < 900000000 → g + f < 1000000 → I 420 64 = nI g → I 420 65 = nI w → zMT I v τ Λ → zRM I 458 0 ρ → zDW τ ρ → zRb b ρ →
    ∃ I', zE (d + 4) kX12_duskBy 16 [some (.ref 420), some (.int (nI rule)), some (.int 1), none, none, none, none] [] Z I J (none, Z, I', J) ∧ zRM I' 458 0 (zev τ rule f ρ g w).1 ∧ I' 420 64 = nI (zev τ rule f ρ g w).2.1 ∧ I' 420 65 = nI (zev τ rule f ρ g w).2.2 ∧ zfk I I' := by
  have h7 := hW.1.1
  intro f
  induction f with
  | zero => intro g w b I ρ ha; omega
  | succ f ih =>
    intro g w b I ρ ha hb hgf hg hw hM hR hD hB
    have hBB := hB.b (show b < 1000000000 by omega)
    obtain ⟨K, hK⟩ : ∃ K : Nat → Nat, K = zky τ rule ρ g := ⟨_, rfl⟩
    have kl : ∀ m, m < τ 0 0 → K m < 1000000001 := fun m hm => by rw [hK]; exact zky_lt hW hD hBB hm
    obtain ⟨a1, a2, a3, a4⟩ := zwo_ok hW K (τ 0 0) 0 0 b ρ hD hB
    obtain ⟨kI, hkI⟩ : ∃ kI : Nat → Int32, kI = fun m => if rule = 3 then nI (K m) - 1 else nI (K m) := ⟨_, rfl⟩
    have mono : ∀ m w, m < τ 0 0 → w < τ 0 0 → (kI m ≤ kI w ↔ K m ≤ K w) := fun m w hm hw' => by
      have h1 := kl m hm
      have h2 := kl w hw'
      rw [hkI]
      by_cases e : rule = 3
      · simp only [if_pos e]
        have s : ∀ n, n < 1000000001 → (nI n - 1).toInt = (n : Int) - 1 := fun n hn => by
          have e1 : (nI n).toInt = (n : Int) := Int32.toInt_ofNat_of_lt (show n < 2 ^ 31 by omega)
          rw [Int32.toInt_sub, e1, show (1 : Int32).toInt = 1 by decide, Int.bmod_eq_of_le (by omega) (by omega)]
        rw [Int32.le_iff_toInt_le, s _ h1, s _ h2]; omega
      · simp only [if_neg e]; exact zle' (by omega) (by omega)
    have det : ∀ m, m ≤ τ 0 0 → ∀ (I1 : zI), zfk I I1 → zRM I1 458 0 ρ → I1 420 64 = nI g → I1 420 65 = nI w → (∀ j, j < m → I1 465 j = kI j) → ∃ I', zE (d + 4) kX12_duskBy 24 [some (.ref 420), some (.int (nI rule)), some (.int 0), some (.int (nI m)), none, none, none] [] Z I1 J (none, Z, I', J) ∧ zRM I' 458 0 (zev τ rule (f + 1) ρ g w).1 ∧ I' 420 64 = nI (zev τ rule (f + 1) ρ g w).2.1 ∧ I' 420 65 = nI (zev τ rule (f + 1) ρ g w).2.2 ∧ zfk I I' := by
      refine zloop _ _ ?_ ?_
      · intro I1 f0 f1 f2 f3 f4
        have hM1 := hM.k f0
        have hv2 := hM1.1.1
        have vl : vp_in (I1 420 18) 2 := by rw [hM1.1.2]; exact zvin hv2 (by decide)
        have n0 : I1 431 (I1 420 18).toNatClampNeg = nI (τ 0 0) := by rw [hM1.1.2, zclm (by omega)]; exact hM1.2.1.1
        have hKm : ∀ m w, m < τ 0 0 → w < τ 0 0 → (I1 465 m ≤ I1 465 w ↔ K m ≤ K w) := fun m w hm hw' => by rw [f4 m hm, f4 w hw']; exact mono m w hm hw'
        obtain ⟨IE, e1, e2, e3, e4, e5⟩ := M_wo_loop (d := d) (J := J) (x1 := nI rule) hL hW (τ 0 0) 0 0 0 w b w g I1 ρ (by omega) (by have : zcd 0 (τ 0 0) = 0 := zsum_0 (fun _ _ _ => by simp); omega) (by decide) hb hKm hM1 f1 hD hB f3 rfl f2
        have go : ∀ o, zE (d + 4) kX12_duskBy 16 [some (.ref 420), some (.int (nI rule)), some (.int (nI (zsg (zwo τ K (τ 0 0) 0 ρ 0).1))), none, none, none, none] [] Z IE J o → zE (d + 4) kX12_duskBy 24 [some (.ref 420), some (.int (nI rule)), some (.int 0), some (.int (nI (τ 0 0))), none, none, none] [] Z I1 J o := fun o ho =>
          BX12_duskBy_24 _ _ _ hL ⟨vl, fun _ => e5 o ho, fun q => absurd (by rw [n0]; exact Int32.le_refl _) q⟩
        simp only [zev]
        rw [← hK]
        generalize hR' : zwo τ K (τ 0 0) 0 ρ 0 = R at a1 a2 a3 a4 e1 e2 e3 go
        by_cases q : R.1 = 0
        · rw [if_pos q]
          rw [zsg_0 q] at e3 go
          rw [q] at e2
          exact ⟨IE, go _ (BX12_duskBy_16 _ _ hL ⟨fun _ => rfl, fun z => absurd rfl z⟩), e1, e3, e2, f0.tr e4⟩
        · rw [if_neg q]
          rw [zsg_1 q] at e3 go
          obtain ⟨I', k1, k2, k3, k4, k5⟩ := ih (g + 1) (w + R.1) b IE R.2 (by omega) hb (by omega) e3 e2 (hM1.k e4) e1 a1 a2
          exact ⟨I', go _ k1, k2, k3, k4, (f0.tr e4).tr k5⟩
      · intro m hm ihm I1 f0 f1 f2 f3 f4
        have hM1 := hM.k f0
        have hv2 := hM1.1.1
        have h60 := (hD.h hW).2 m hm
        have vl : vp_in (I1 420 18) 2 := by rw [hM1.1.2]; exact zvin hv2 (by decide)
        have n0 : I1 431 (I1 420 18).toNatClampNeg = nI (τ 0 0) := by rw [hM1.1.2, zclm (by omega)]; exact hM1.2.1.1
        have r14 : I1 458 ((14 : Int32) + nI m).toNatClampNeg = nI (ρ (14 + m)) := by rw [zk_14, zclm (by omega)]; exact f1.at (by omega)
        have v14 : vp_in ((14 : Int32) + nI m) 1290 := by rw [zk_14]; exact zvin (by omega) (by decide)
        have vm7 : vp_in (nI m) 7 := zvin (by omega) (by decide)
        -- a key is set
        have set : ∀ (I2 : zI), zfk I1 I2 → zRM I2 458 0 ρ → I2 420 64 = nI g → I2 420 65 = nI w → I2 465 = I1 465 → ∃ I', zE (d + 4) kX12_duskBy 24 [some (.ref 420), some (.int (nI rule)), some (.int 0), some (.int (nI m + 1)), none, none, none] [] Z (zu I2 465 m (kI m)) J (none, Z, I', J) ∧ zRM I' 458 0 (zev τ rule (f + 1) ρ g w).1 ∧ I' 420 64 = nI (zev τ rule (f + 1) ρ g w).2.1 ∧ I' 420 65 = nI (zev τ rule (f + 1) ρ g w).2.2 ∧ zfk I I' := fun I2 h0 h1 h2 h3 h4 => by
          rw [zadd1]
          refine ihm _ ((f0.tr h0).tr (zfm.put (by decide) (by decide))) (fun a ha => by rw [zu_ne (by decide)]; exact h1 a ha) (by rw [zu_a (by decide)]; exact h2) (by rw [zu_a (by decide)]; exact h3) (fun j hj => ?_)
          by_cases e : j = m
          · rw [e, zu_eq]
          · rw [zu_k e, h4]; exact f4 j (by omega)
        have hno : ¬ I1 431 (I1 420 18).toNatClampNeg ≤ nI m := by rw [n0, zle' (by omega) (by omega)]; omega
        have ne : ∀ k, k < 5 → rule ≠ k → ¬ nI rule = nI k := fun k hk e z => e ((zeq (by omega) (by omega)).mp z)
        have n0' : rule ≠ 0 → ¬ nI rule = 0 := ne 0 (by decide)
        have n1 : rule ≠ 1 → ¬ nI rule = 1 := ne 1 (by decide)
        have n2 : rule ≠ 2 → ¬ nI rule = 2 := ne 2 (by decide)
        have n3 : rule ≠ 3 → ¬ nI rule = 3 := ne 3 (by decide)
        have kIm : rule ≠ 3 → kI m = nI (K m) := fun e => by rw [hkI]; simp only [if_neg e]
        have p9 := (hD.man hm).2.2.1
        obtain ⟨I7, l1, l2⟩ := M_leftOf (d := d) (J := J) hL hW hM1 f1 hm p9
        by_cases r2 : rule = 2
        · obtain ⟨I', s1, s2⟩ := set I7 l2.k (f1.fl l2) ((l2.2 64 (by decide)).trans f2) ((l2.2 65 (by decide)).trans f3) (l2.row (by decide) (by decide) (by decide))
          refine ⟨I', BX12_duskBy_24 _ _ _ hL ⟨vl, fun q => absurd q hno, fun _ => ⟨v14, fun y1 ey => ⟨fun _ => ⟨fun _ => ⟨fun q => absurd (by rw [r2]; rfl) q, fun _ => ⟨_, I7, l1, vm7, fun I8 e8 => ?_⟩⟩, fun q => absurd q (n1 (by omega))⟩, fun q => absurd q (n0' (by omega))⟩⟩⟩, s2⟩
          have ek : K m = τ 9 m - ρ (14 + m) := by rw [hK]; unfold zky; rw [if_neg (by omega), if_pos r2]
          rw [zclm (by omega), ← ek, ← kIm (by omega)] at e8
          rw [e8]; exact s1
        · obtain ⟨I', s1, s2⟩ := set I1 zfm.rf f1 f2 f3 rfl
          have fin : ∀ (I8 : zI) (x : Int32), x = kI m → I8 = zu I1 465 (nI m).toNatClampNeg x → zE (d + 4) kX12_duskBy 24 [some (.ref 420), some (.int (nI rule)), some (.int 0), some (.int (nI m + 1)), none, none, none] [] Z I8 J (none, Z, I', J) := fun I8 x ex e8 => by
            rw [zclm (by omega), ex] at e8
            rw [e8]; exact s1
          refine ⟨I', BX12_duskBy_24 _ _ _ hL ⟨vl, fun q => absurd q hno, fun _ => ⟨v14, fun y1 ey => ⟨fun q0 => ⟨fun q1 => ⟨fun q2 => ⟨fun q3 => ⟨vl, _, M_lotOf (by decide), vm7, fun I8 e8 => fin I8 _ ?_ e8⟩, fun q3 => ⟨v14, fun q => ⟨?_, vm7, fun I8 e8 => fin I8 _ ?_ e8⟩, fun q => ⟨vm7, fun I8 e8 => fin I8 _ ?_ e8⟩⟩⟩, fun q2 => absurd q2 (n2 r2)⟩, fun q1 => ⟨v14, vm7, fun I8 e8 => fin I8 _ ?_ e8⟩⟩, fun q0 => ⟨vm7, fun I8 e8 => fin I8 _ ?_ e8⟩⟩⟩⟩, s2⟩
          · have r4 : rule = 4 := by
              have : rule ≠ 0 := fun z => q0 (by rw [z]; rfl)
              have : rule ≠ 1 := fun z => q1 (by rw [z]; rfl)
              have : rule ≠ 3 := fun z => q3 (by rw [z]; rfl)
              omega
            have ew : ((2000 : Int32) + ((8 : Int32) * (I1 458 28 + I1 420 64))) + nI m = nI (2000 + 8 * (ρ 28 + g) + m) := by
              rw [f1.at (by decide), f2, zadd, show (8 : Int32) = nI 8 from rfl, zmul, show (2000 : Int32) = nI 2000 from rfl, zadd, zadd]
            rw [ew, hM1.1.2, zclm (by omega), hM1.2.1.2.2.2.1, kIm (by omega), hK]
            unfold zky
            rw [if_neg (by omega), if_neg (by omega), if_neg (by omega), if_pos r4, ← (zlot1000 _ _).1]
          · have r3 : rule = 3 := Classical.byContradiction fun z => n3 z q3
            rw [r14, zn0 (by omega)] at q
            obtain ⟨k, hk⟩ : ∃ k, ρ (14 + m) = k + 1 := ⟨ρ (14 + m) - 1, by omega⟩
            have : y1 = nI (60 * m + k) := by rw [ey, r14, zk_60, hk, show 60 * m + (k + 1) = (60 * m + k) + 1 by omega, zsub1]
            rw [this, zk_450]; exact zvin (by omega) (by decide)
          · have r3 : rule = 3 := Classical.byContradiction fun z => n3 z q3
            rw [r14, zn0 (by omega)] at q
            obtain ⟨k, hk⟩ : ∃ k, ρ (14 + m) = k + 1 := ⟨ρ (14 + m) - 1, by omega⟩
            have ey' : y1 = nI (60 * m + k) := by rw [ey, r14, zk_60, hk, show 60 * m + (k + 1) = (60 * m + k) + 1 by omega, zsub1]
            rw [ey', zk_450, zclm (by omega), f1.at (by omega), hkI]
            simp only [if_pos r3]
            rw [hK]
            unfold zky
            rw [if_neg (by omega), if_neg (by omega), if_pos r3, if_neg q, hk, Nat.add_sub_cancel, zsub1]
          · have r3 : rule = 3 := Classical.byContradiction fun z => n3 z q3
            rw [r14, zn0 (by omega)] at q
            rw [hkI]
            simp only [if_pos r3]
            rw [hK]
            unfold zky
            rw [if_neg (by omega), if_neg (by omega), if_pos r3, if_pos q]; decide
          · have r1 : rule = 1 := Classical.byContradiction fun z => n1 z q1
            rw [r14, kIm (by omega), hK]; unfold zky; rw [if_pos r1]
          · have r0 : rule = 0 := Classical.byContradiction fun z => n0' z q0
            rw [kIm (by omega), hK]; unfold zky; rw [if_neg (by omega), if_neg (by omega), if_neg (by omega), if_neg (by omega)]; rfl
    obtain ⟨I', j1, j2⟩ := det 0 (Nat.zero_le _) I zfm.rf hR hg hw (fun j hj => absurd hj (by omega))
    exact ⟨I', BX12_duskBy_16 _ _ hL ⟨fun q => absurd q (by decide), fun _ => j1⟩, j2⟩
end
