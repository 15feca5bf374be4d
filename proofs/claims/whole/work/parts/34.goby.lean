/-! a minute goes by; rows are copied -/
/-- a row from off on is overwritten -/
def zrw (I : zI) (a off : Nat) (f : Nat → Int32) (n : Nat) : zI := fun b j => if b = a ∧ off ≤ j ∧ j < off + n then f (j - off) else I b j
theorem zrw_0 {I : zI} {a off : Nat} {f : Nat → Int32} : zrw I a off f 0 = I := by
  funext b j; unfold zrw; rw [if_neg (by omega)]
theorem zrw_s {I : zI} {a off n : Nat} {f : Nat → Int32} {v : Int32} (hv : v = f n) : zu (zrw I a off f n) a (off + n) v = zrw I a off f (n + 1) := by
  funext b j
  rw [zu_if]; unfold zrw
  by_cases hb : b = a
  · by_cases hj : j = off + n
    · rw [if_pos ⟨hb, hj⟩, if_pos ⟨hb, by omega, by omega⟩, hv, hj, Nat.add_sub_cancel_left]
    · rw [if_neg (fun q => hj q.2)]
      by_cases h2 : off ≤ j ∧ j < off + n
      · rw [if_pos ⟨hb, h2⟩, if_pos ⟨hb, by omega, by omega⟩]
      · rw [if_neg (fun q => h2 q.2), if_neg (fun q => h2 (by omega))]
  · rw [if_neg (fun q => hb q.1), if_neg (fun q => hb q.1), if_neg (fun q => hb q.1)]
theorem zrw_at {I : zI} {a off n j : Nat} {f : Nat → Int32} (h : j < n) : zrw I a off f n a (off + j) = f j := by
  unfold zrw; rw [if_pos ⟨rfl, by omega, by omega⟩, Nat.add_sub_cancel_left]
theorem zrw_at0 {I : zI} {a n j : Nat} {f : Nat → Int32} (h : j < n) : zrw I a 0 f n a j = f j := by
  unfold zrw; rw [if_pos ⟨rfl, by omega, by omega⟩, Nat.sub_zero]
theorem zrw_ne {I : zI} {a off n b : Nat} {f : Nat → Int32} (h : b ≠ a) : zrw I a off f n b = I b := by
  funext j; unfold zrw; rw [if_neg (fun q => h q.1)]
theorem zrw_out {I : zI} {a off n j : Nat} {f : Nat → Int32} (h : j < off ∨ off + n ≤ j) : zrw I a off f n a j = I a j := by
  unfold zrw; rw [if_neg (by omega)]
section
variable {d : Nat} {Z : zZ} {J : zJ} {t u : Nat} {τ : Nat → Nat → Nat} {Λ : Nat → Option zLaw} {ρ : Nat → Nat}
/-- what a minute on a day writes -/
def zfb (d t : Nat) (I I' : zI) : Prop := ∀ a, ¬ (d ≤ a ∧ a ≤ d + 9) → a ≠ t + 4 → a ≠ t + 5 → I' a = I a
theorem zfb.rf {d t : Nat} {I : zI} : zfb d t I I := fun _ _ _ _ => rfl
theorem zfb.tr {d t : Nat} {I I' I'' : zI} (h1 : zfb d t I I') (h2 : zfb d t I' I'') : zfb d t I I'' := fun a h h3 h4 => (h2 a h h3 h4).trans (h1 a h h3 h4)
theorem zfa.b {d t : Nat} {I I' : zI} (h : zfa d t I I') : zfb d t I I' := h.1
theorem zfd.b {d t : Nat} {I I' : zI} (h : zfd d I I') : zfb d t I I' := fun a h1 _ _ => h.1 a h1
theorem zCT.b {I I' : zI} {d1 t1 : Nat} (h : zCT I t1 τ Λ) (hf : zfb d1 t1 I I') (hd : t1 + 16 < d1) : zCT I' t1 τ Λ := h.same fun a h1 h2 h3 h4 => hf a (by omega) h3 h4
theorem zSx.b {I I' : zI} {d1 t1 : Nat} (h : zSx I) (hf : zfb d1 t1 I I') (hd : t1 + 16 < d1) (hx : d1 + 9 < 1000001) : zSx I' := h.same (hf _ (by omega) (by omega) (by omega)) (hf _ (by omega) (by omega) (by omega))
theorem C_goBy_loop (hL : zLY Z t u) {d1 t1 : Nat} (hd : zDy Z d1) (ht : zTx Z t1) (hx : d1 + 9 < 1000001) (htd : t1 + 16 < d1) (hW : zTW τ Λ) : ∀ (k i : Nat) (I : zI) (ρ : Nat → Nat) (b : Nat), i + k = τ 0 0 → b + k < 1000000000 → zSx I → zCT I t1 τ Λ → zCE I d1 τ ρ → zDW τ ρ → zRb b ρ →
    ∃ I', zE (d + 5) kX0_goBy 2 [some (.ref d1), some (.ref t1), some (.int (nI i))] [] Z I J (none, Z, I', J) ∧ zCE I' d1 τ (zup (zgo τ Λ (fun _ => 0) k i ρ) 28 (ρ 28 + 1)) ∧ zfb d1 t1 I I' := by
  have h7 := hW.1.1
  intro k
  induction k with
  | zero =>
    intro i I ρ b hik hb hS hT hC hD hB
    have e2 : I t1 2 = nI (τ 0 0) := hT.1.1
    refine ⟨zu I d1 0 (nI (ρ 28 + 1)), BX0_goBy_2 _ hd ht ⟨fun _ I1 e1 => ?_, fun q => ?_⟩, ⟨?_, ?_, ?_⟩, fun a h _ _ => zu_ne (by omega)⟩
    · rw [e1, hC.2.1, zadd1]
    · exfalso; rw [e2, zle' (by omega) (by omega)] at q; omega
    · have hc := zCD_28 hC.1 h7 (v := ρ 28 + 1)
      refine ⟨?_, fun m hm => ?_, ?_⟩
      · rw [zu_k (by decide)]; exact hc.1
      · have := hc.2.1 m hm
        rw [zu_ne (by omega), zu_ne (by omega), zu_ne (by omega), zu_ne (by omega)]; exact this
      · exact zCP.same (I := I) hc.2.2 fun a h1 h2 => zu_ne (by omega)
    · rw [zu_eq, zup_eq]
    · rw [zu_a (by omega)]; exact hC.2.2
  | succ k ih =>
    intro i I ρ b hik hb hS hT hC hD hB
    have e2 : I t1 2 = nI (τ 0 0) := hT.1.1
    obtain ⟨I1, g1, g2, g3⟩ := C_act (d := d) (J := J) hL hd ht hx htd hS hW hT hC.1 hD (hB.b (by omega)) (m := i) (mi := ρ 28) (by omega)
    have h28 : zact τ Λ ρ i (ρ 28) 28 = ρ 28 := zact_28 (by omega)
    obtain ⟨I', k1, k2, k3⟩ := ih (i + 1) I1 (zact τ Λ ρ i (ρ 28)) (b + 1) (by omega) (by omega) (hS.a g3 htd hx) (hT.a g3 htd) ⟨g2, by rw [g3.2.1, h28]; exact hC.2.1, by rw [g3.2.2]; exact hC.2.2⟩ (zDW_act hW hD (by omega)) (zRb_act hB hD hW (by omega))
    rw [h28] at k2
    refine ⟨I', BX0_goBy_2 _ hd ht ⟨fun q => ?_, fun _ => ⟨I1, by rw [hC.2.1]; exact g1, by rw [zadd1]; exact k1⟩⟩, ?_, g3.b.tr k3⟩
    · exfalso; rw [e2, zle' (by omega) (by omega)] at q; omega
    · simp only [zgo]
      rw [if_neg (by omega)]
      exact k2
theorem C_goBy (hL : zLY Z t u) {d1 t1 : Nat} (hd : zDy Z d1) (ht : zTx Z t1) (hx : d1 + 9 < 1000001) (htd : t1 + 16 < d1) (hW : zTW τ Λ) {I : zI} {b : Nat} (hb : b < 900000000) (hS : zSx I) (hT : zCT I t1 τ Λ) (hC : zCE I d1 τ ρ) (hD : zDW τ ρ) (hB : zRb b ρ) :
    ∃ I', zE (d + 5) kX0_goBy 0 [some (.ref d1), some (.ref t1), none] [] Z I J (none, Z, I', J) ∧ zCE I' d1 τ (zmi τ Λ (fun _ => 0) ρ) ∧ zfb d1 t1 I I' := by
  have h7 := hW.1.1
  obtain ⟨I', h1, h2, h3⟩ := C_goBy_loop (d := d) (J := J) hL hd ht hx htd hW (τ 0 0) 0 I ρ b (by omega) (by omega) hS hT hC hD hB
  refine ⟨I', BX0_goBy_0 hd ht h1, ?_, h3⟩
  unfold zmi
  rw [zgo_28 _ _ _ _ (by omega)]; exact h2
set_option maxHeartbeats 1000000 in
theorem M_minute_loop (hL : zLY Z t u) {v : Nat} (hW : zTW τ Λ) {lm : Nat → Nat} (hlm : ∀ m, m < 7 → lm m < 1000000000) : ∀ (k i : Nat) (I : zI) (ρ : Nat → Nat) (b : Nat), i + k = τ 0 0 → b + k < 1000000000 → zMT I v τ Λ → zRM I 458 0 ρ → zDW τ ρ → zRb b ρ → (∀ m, m < 7 → I 459 m = nI (lm m)) →
    ∃ I', zE (d + 5) kX12_minuteGoes 2 [some (.ref 420), some (.int (nI i)), none] [] Z I J (none, Z, I', J) ∧ zRM I' 458 0 (zup (zgo τ Λ lm k i ρ) 28 (ρ 28 + 1)) ∧ zfw I I' := by
  have h7 := hW.1.1
  intro k
  induction k with
  | zero =>
    intro i I ρ b hik hb hM hR hD hB hl
    have hlv := hM.1.2
    have hv2 := hM.1.1
    refine ⟨zu I 458 28 (nI (ρ 28 + 1)), BX12_minuteGoes_2 _ hL ⟨by rw [hlv]; exact zvin hv2 (by decide), fun _ I1 e1 => ?_, fun q => ?_⟩, hR.put, zfm.put (by decide) (by decide)⟩
    · rw [e1, hR.at (by decide), zadd1]
    · exfalso; rw [hlv, zclm (by omega), hM.2.1.1, zle' (by omega) (by omega)] at q; omega
  | succ k ih =>
    intro i I ρ b hik hb hM hR hD hB hl
    have hlv := hM.1.2
    have hv2 := hM.1.1
    have him : i < τ 0 0 := by omega
    obtain ⟨p1, p2, p3, p4, p5, p6⟩ := hD.man him
    have e21 : (21 : Int32) + nI i = nI (21 + i) := zk14 rfl
    have r21 : I 458 ((21 : Int32) + nI i).toNatClampNeg = nI (ρ (21 + i)) := by rw [e21, zclm (by omega)]; exact hR.at (by omega)
    have v21 : vp_in ((21 : Int32) + nI i) 1290 := by rw [e21]; exact zvin (by omega) (by decide)
    have hmen : ¬ I 431 (I 420 18).toNatClampNeg ≤ nI i := by rw [hlv, zclm (by omega), hM.2.1.1, zle' (by omega) (by omega)]; omega
    have hvl : vp_in (I 420 18) 2 := by rw [hlv]; exact zvin hv2 (by decide)
    have b28 := hB.2.2
    have hli := hlm i (by omega)
    simp only [zgo]
    -- behind this man
    have go : ∀ (I1 : zI) (ρ1 : Nat → Nat), zRM I1 458 0 ρ1 → zDW τ ρ1 → zRb (b + 1) ρ1 → ρ1 28 = ρ 28 → zfw I I1 → ∃ I', zE (d + 5) kX12_minuteGoes 2 [some (.ref 420), some (.int (nI i + 1)), none] [] Z I1 J (none, Z, I', J) ∧ zRM I' 458 0 (zup (zgo τ Λ lm k (i + 1) ρ1) 28 (ρ 28 + 1)) ∧ zfw I I' := by
      intro I1 ρ1 a1 a2 a3 a4 a5
      obtain ⟨I', k1, k2, k3⟩ := ih (i + 1) I1 ρ1 (b + 1) (by omega) (by omega) (hM.fw a5) a1 a2 a3 (fun m hm => by rw [a5.row (by decide) (by decide) (by decide) (by decide)]; exact hl m hm)
      rw [a4] at k2
      exact ⟨I', by rw [zadd1]; exact k1, k2, a5.tr k3⟩
    by_cases hl0 : ρ (21 + i) = 0
    · have hn1 : ¬ nI (ρ (21 + i)) = 1 := by rw [hl0]; decide
      have hge : I 459 (nI i).toNatClampNeg ≤ I 458 28 ↔ ¬ ρ 28 < lm i := by
        rw [zclm (by omega), hl i (by omega), hR.at (by decide), zle' (by omega) (by omega)]; omega
      by_cases hst : ρ 28 < lm i
      · rw [if_pos hst]
        obtain ⟨I', k1, k2, k3⟩ := go I ρ hR hD (hB.mono (by omega)) rfl zfm.rf
        exact ⟨I', BX12_minuteGoes_2 _ hL ⟨hvl, fun q => absurd q hmen, fun _ => ⟨v21, fun q => absurd (r21.symm.trans q) hn1, fun _ => ⟨zvin (by omega) (by decide), fun q => absurd hst (hge.mp q), fun _ => k1⟩⟩⟩, k2, k3⟩
      · rw [if_neg hst]
        obtain ⟨I3, g1, g2⟩ := M_goesOf (d := d) (J := J) hL hW hM hR him p3 (lm := lm i) (hl i (by omega)) (by omega)
        rw [(zwn_eq i (ρ 28 - lm i)).1] at g1
        have hw5 := (zwn_eq (τ := τ) (Λ := Λ) (ρ := ρ) i (ρ 28 - lm i)).2
        have hM3 := hM.fl g2
        have hR3 := hR.fl g2
        generalize hw : zwn τ Λ ρ i (ρ 28 - lm i) = w at g1 hw5
        have h14 : ((1 : Int32) ≤ nI w ∧ nI w ≤ 4) ↔ (1 ≤ w ∧ w ≤ 4) := by
          rw [show (1 : Int32) = nI 1 from rfl, show (4 : Int32) = nI 4 from rfl, zle' (by decide) (by omega), zle' (by omega) (by decide)]
        have h5 : nI w = 5 ↔ w = 5 := by rw [show (5 : Int32) = nI 5 from rfl, zeq (by omega) (by decide)]
        have hD1 := zDW_act (m := i) (mi := ρ 28 - lm i) hW hD him
        have hB1 := zRb_act (m := i) (mi := ρ 28 - lm i) hB hD hW him
        have e28 : zact τ Λ ρ i (ρ 28 - lm i) 28 = ρ 28 := zact_28 (by omega)
        by_cases w5 : w = 5
        · have hwi := M_winds (d := d + 3) (J := J) hL hW hM3 hR3 (hB.b (by omega)) hD him
          rw [zact_5 hl0 (hw.trans w5)] at hD1 hB1 e28 ⊢
          have n14 : zbi ((1 : Int32) ≤ nI w ∧ nI w ≤ 4) = 0 := zbi_f (fun z => by have := h14.mp z; omega)
          by_cases hc : zcanW τ ρ i
          · rw [if_pos hc] at hD1 hB1 e28 ⊢
            obtain ⟨I5, j1, j2, j3⟩ := hwi.1 hc
            obtain ⟨I', k1, k2, k3⟩ := go I5 _ j2 hD1 hB1 e28 (g2.w.tr j3)
            exact ⟨I', BX12_minuteGoes_2 _ hL ⟨hvl, fun q => absurd q hmen, fun _ => ⟨v21, fun q => absurd (r21.symm.trans q) hn1, fun _ => ⟨zvin (by omega) (by decide), fun _ => ⟨_, I3, g1, fun _ => ⟨fun q => absurd (h5.mpr w5) q, fun _ => ⟨1, I5, j1, k1⟩⟩, fun q => absurd n14 q⟩, fun q => absurd (hge.mpr hst) q⟩⟩⟩, k2, k3⟩
          · rw [if_neg hc] at hD1 hB1 e28 ⊢
            obtain ⟨I', k1, k2, k3⟩ := go I3 _ hR3 hD1 hB1 e28 g2.w
            exact ⟨I', BX12_minuteGoes_2 _ hL ⟨hvl, fun q => absurd q hmen, fun _ => ⟨v21, fun q => absurd (r21.symm.trans q) hn1, fun _ => ⟨zvin (by omega) (by decide), fun _ => ⟨_, I3, g1, fun _ => ⟨fun q => absurd (h5.mpr w5) q, fun _ => ⟨0, I3, hwi.2 hc, k1⟩⟩, fun q => absurd n14 q⟩, fun q => absurd (hge.mpr hst) q⟩⟩⟩, k2, k3⟩
        · have hn5 : ¬ nI w = 5 := fun q => w5 (h5.mp q)
          by_cases w0 : w = 0
          · rw [zact_0 (hw.trans w0)] at hD1 hB1 e28 ⊢
            have n14 : zbi ((1 : Int32) ≤ nI w ∧ nI w ≤ 4) = 0 := zbi_f (fun z => by have := h14.mp z; omega)
            obtain ⟨I', k1, k2, k3⟩ := go I3 _ hR3 hD1 hB1 e28 g2.w
            exact ⟨I', BX12_minuteGoes_2 _ hL ⟨hvl, fun q => absurd q hmen, fun _ => ⟨v21, fun q => absurd (r21.symm.trans q) hn1, fun _ => ⟨zvin (by omega) (by decide), fun _ => ⟨_, I3, g1, fun _ => ⟨fun _ => k1, fun q => absurd q hn5⟩, fun q => absurd n14 q⟩, fun q => absurd (hge.mpr hst) q⟩⟩⟩, k2, k3⟩
          · have hst2 := M_steps (d := d) (J := J) hL hW hM3 hR3 (hB.b (by omega)) hD him (w := w) (by omega) (by omega)
            rw [zact_s hl0 (by rw [hw]; exact w5) (by rw [hw]; exact w0), hw] at hD1 hB1 e28 ⊢
            have n14 : ¬ zbi ((1 : Int32) ≤ nI w ∧ nI w ≤ 4) = 0 := zbi_ne0.mpr (h14.mpr (by omega))
            by_cases hc : zcan τ ρ i w
            · rw [if_pos hc] at hD1 hB1 e28 ⊢
              obtain ⟨I5, j1, j2, j3⟩ := hst2.1 hc
              obtain ⟨I', k1, k2, k3⟩ := go I5 _ j2 hD1 hB1 e28 (g2.w.tr j3)
              exact ⟨I', BX12_minuteGoes_2 _ hL ⟨hvl, fun q => absurd q hmen, fun _ => ⟨v21, fun q => absurd (r21.symm.trans q) hn1, fun _ => ⟨zvin (by omega) (by decide), fun _ => ⟨_, I3, g1, fun q => absurd q n14, fun _ => ⟨1, I5, j1, fun _ => k1, fun q => absurd q hn5⟩⟩, fun q => absurd (hge.mpr hst) q⟩⟩⟩, k2, k3⟩
            · rw [if_neg hc] at hD1 hB1 e28 ⊢
              obtain ⟨I5, j1, j3⟩ := hst2.2 hc
              obtain ⟨I', k1, k2, k3⟩ := go I5 _ (hR3.fl j3) hD1 hB1 e28 (g2.w.tr j3.w)
              exact ⟨I', BX12_minuteGoes_2 _ hL ⟨hvl, fun q => absurd q hmen, fun _ => ⟨v21, fun q => absurd (r21.symm.trans q) hn1, fun _ => ⟨zvin (by omega) (by decide), fun _ => ⟨_, I3, g1, fun q => absurd q n14, fun _ => ⟨0, I5, j1, fun _ => k1, fun q => absurd q hn5⟩⟩, fun q => absurd (hge.mpr hst) q⟩⟩⟩, k2, k3⟩
    · have e1 : ρ (21 + i) = 1 := by omega
      have same : (if ρ 28 < lm i then ρ else zact τ Λ ρ i (ρ 28 - lm i)) = ρ := by
        rw [zact_l hl0, ite_self]
      rw [same]
      obtain ⟨I', k1, k2, k3⟩ := go I ρ hR hD (hB.mono (by omega)) rfl zfm.rf
      exact ⟨I', BX12_minuteGoes_2 _ hL ⟨hvl, fun q => absurd q hmen, fun _ => ⟨v21, fun _ => k1, fun q => absurd (by rw [r21, e1]; rfl) q⟩⟩, k2, k3⟩
theorem M_minuteGoes (hL : zLY Z t u) {v : Nat} (hW : zTW τ Λ) {lm : Nat → Nat} (hlm : ∀ m, m < 7 → lm m < 1000000000) {I : zI} {b : Nat} (hb : b < 900000000) (hM : zMT I v τ Λ) (hR : zRM I 458 0 ρ) (hD : zDW τ ρ) (hB : zRb b ρ) (hl : ∀ m, m < 7 → I 459 m = nI (lm m)) :
    ∃ I', zE (d + 5) kX12_minuteGoes 0 [some (.ref 420), none, none] [] Z I J (none, Z, I', J) ∧ zRM I' 458 0 (zmi τ Λ lm ρ) ∧ zfw I I' := by
  have h7 := hW.1.1
  obtain ⟨I', h1, h2, h3⟩ := M_minute_loop (d := d) (J := J) hL hW hlm (τ 0 0) 0 I ρ b (by omega) (by omega) hM hR hD hB hl
  refine ⟨I', BX12_minuteGoes_0 hL h1, ?_, h3⟩
  unfold zmi
  rw [zgo_28 _ _ _ _ (by omega)]; exact h2
-- rows copied: the reference
theorem M_copies (hL : zLY Z t u) {I : zI} : zE d kX12_copies 0 [some (.ref 420), none] [] Z I J (none, Z, zrw (zrw I 458 0 (I 457) 1290) 459 0 (fun _ => 0) 7, J) := by
  have l2 : ∀ I1 : zI, ∀ i, i ≤ 7 → zE d kX12_copies 29 [some (.ref 420), some (.int (nI i))] [] Z (zrw I1 459 0 (fun _ => 0) i) J (none, Z, zrw I1 459 0 (fun _ => 0) 7, J) := fun I1 => by
    refine zloop _ _ ?_ ?_
    · exact BX12_copies_29 _ hL ⟨fun _ => rfl, fun q => absurd (by decide) q⟩
    · intro i hi ih
      refine BX12_copies_29 _ hL ⟨fun q => ?_, fun _ => ⟨zvin hi (by decide), fun I2 e2 => ?_⟩⟩
      · exfalso; rw [show (7 : Int32) = nI 7 from rfl, zle' (by decide) (by omega)] at q; omega
      · rw [zclm (by omega)] at e2
        have hs := zrw_s (I := I1) (a := 459) (off := 0) (n := i) (f := fun _ => (0 : Int32)) rfl
        rw [Nat.zero_add] at hs
        rw [e2, hs, zadd1]; exact ih
  have l1 : ∀ i, i ≤ 1290 → zE d kX12_copies 2 [some (.ref 420), some (.int (nI i))] [] Z (zrw I 458 0 (I 457) i) J (none, Z, zrw (zrw I 458 0 (I 457) 1290) 459 0 (fun _ => 0) 7, J) := by
    refine zloop _ _ ?_ ?_
    · have h := l2 (zrw I 458 0 (I 457) 1290) 0 (by decide)
      rw [zrw_0] at h
      exact BX12_copies_2 _ hL ⟨fun _ => h, fun q => absurd (by decide) q⟩
    · intro i hi ih
      refine BX12_copies_2 _ hL ⟨fun q => ?_, fun _ => ⟨zvin hi (by decide), zvin hi (by decide), fun I2 e2 => ?_⟩⟩
      · exfalso; rw [show (1290 : Int32) = nI 1290 from rfl, zle' (by decide) (by omega)] at q; omega
      · rw [zclm (by omega), zrw_ne (by decide)] at e2
        have hs := zrw_s (I := I) (a := 458) (off := 0) (n := i) (f := I 457) rfl
        rw [Nat.zero_add] at hs
        rw [e2, hs, zadd1]; exact ih
  have h := l1 0 (by decide)
  rw [zrw_0] at h
  exact BX12_copies_0 hL h
theorem M_copies' (hL : zLY Z t u) {I : zI} (hR : zRM I 457 0 ρ) : ∃ I', zE d kX12_copies 0 [some (.ref 420), none] [] Z I J (none, Z, I', J) ∧ zRM I' 458 0 ρ ∧ (∀ m, m < 7 → I' 459 m = nI 0) ∧ ∀ a, a ≠ 458 → a ≠ 459 → I' a = I a := by
  refine ⟨_, M_copies hL, fun k hk => ?_, fun m hm => zrw_at0 hm, fun a h1 h2 => by rw [zrw_ne h2, zrw_ne h1]⟩
  rw [zrw_ne (by decide), Nat.zero_add, zrw_at0 hk]
  exact hR.at hk
theorem M_keepsRow (hL : zLY Z t u) {I : zI} : zE d kX12_keepsRow 0 [some (.ref 420), none] [] Z I J (none, Z, zrw I 457 0 (I 458) 1290, J) := by
  have l1 : ∀ i, i ≤ 1290 → zE d kX12_keepsRow 2 [some (.ref 420), some (.int (nI i))] [] Z (zrw I 457 0 (I 458) i) J (none, Z, zrw I 457 0 (I 458) 1290, J) := by
    refine zloop _ _ ?_ ?_
    · exact BX12_keepsRow_2 _ hL ⟨fun _ => rfl, fun q => absurd (by decide) q⟩
    · intro i hi ih
      refine BX12_keepsRow_2 _ hL ⟨fun q => ?_, fun _ => ⟨zvin hi (by decide), zvin hi (by decide), fun I2 e2 => ?_⟩⟩
      · exfalso; rw [show (1290 : Int32) = nI 1290 from rfl, zle' (by decide) (by omega)] at q; omega
      · rw [zclm (by omega), zrw_ne (by decide)] at e2
        have hs := zrw_s (I := I) (a := 457) (off := 0) (n := i) (f := I 458) rfl
        rw [Nat.zero_add] at hs
        rw [e2, hs, zadd1]; exact ih
  have h := l1 0 (by decide)
  rw [zrw_0] at h
  exact BX12_keepsRow_0 hL h
theorem M_keepsRow' (hL : zLY Z t u) {I : zI} (hR : zRM I 458 0 ρ) : ∃ I', zE d kX12_keepsRow 0 [some (.ref 420), none] [] Z I J (none, Z, I', J) ∧ zRM I' 457 0 ρ ∧ ∀ a, a ≠ 457 → I' a = I a := by
  refine ⟨_, M_keepsRow hL, fun k hk => ?_, fun a h1 => zrw_ne h1⟩
  rw [Nat.zero_add, zrw_at0 hk]
  exact hR.at hk
/-- Arrays.fill -/
theorem S_fill {a n : Nat} (hn : n < 2147483648) (ha : zis Z a 1 n) {I : zI} {x : Int32} : zE d kJ7_fill_53178 0 [some (.ref a), some (.int x), none, none] [] Z I J (none, Z, zrw I a 0 (fun _ => x) n, J) := by
  have l1 : ∀ i, i ≤ n → zE d kJ7_fill_53178 5 [some (.ref a), some (.int x), some (.int (nI i)), some (.int (Int32.ofNat n))] [] Z (zrw I a 0 (fun _ => x) i) J (none, Z, zrw I a 0 (fun _ => x) n, J) := by
    refine zloop _ _ ?_ ?_
    · exact BJ7_fill_53178_5 _ _ _ ha ⟨fun _ => rfl, fun q => absurd (Int32.le_refl _) q⟩
    · intro i hi ih
      refine BJ7_fill_53178_5 _ _ _ ha ⟨fun q => ?_, fun _ => ⟨zvin hi hn, fun I2 e2 => ?_⟩⟩
      · exfalso
        have q' : nI n ≤ nI i := q
        rw [zle' hn (by omega)] at q'; omega
      · rw [zclm (by omega)] at e2
        have hs := zrw_s (I := I) (a := a) (off := 0) (n := i) (f := fun _ => x) rfl
        rw [Nat.zero_add] at hs
        rw [e2, hs, zadd1]; exact ih
  have h := l1 0 (by omega)
  rw [zrw_0] at h
  exact BJ7_fill_53178_0 _ ha h
theorem S_copyRow {a0 a1 n : Nat} (hn : n < 2147483648) (h0 : zis Z a0 1 n) (h1 : zis Z a1 1 n) {I : zI} : zE (d + 1) kX11_copyRow 0 [some (.ref a0), some (.ref a1)] [] Z I J (none, Z, zrw I a1 0 (I a0) n, J) := by
  have e : (if Int32.ofNat n < Int32.ofNat n then Int32.ofNat n else Int32.ofNat n) = nI n := by rw [ite_self]; rfl
  refine BX11_copyRow_0 h0 h1 ?_
  rw [e, zclm hn]
  refine ⟨by decide, by decide, zneg hn, by simp, by simp, fun I1 e1 => ?_⟩
  rw [e1]
  congr 3
  funext b j
  unfold zrow zcpy va_cpy zrw
  by_cases hb : b = a1
  · subst hb
    simp
  · rw [if_neg hb, if_neg (fun q => hb q.1)]
/-- a day is copied -/
theorem C_copy {d0 d1 : Nat} (h0 : zDy Z d0) (h1 : zDy Z d1) (hne : d0 + 9 < d1 ∨ d1 + 9 < d0) {I : zI} : ∃ I', zE (d + 2) kX0_copy 0 [some (.ref d0), some (.ref d1)] [] Z I J (none, Z, I', J) ∧ (I' d0 0 = I d1 0 ∧ I' d0 10 = I d1 10) ∧ ((∀ j, j < 7 → I' (d0 + 1) j = I (d1 + 1) j ∧ I' (d0 + 2) j = I (d1 + 2) j ∧ I' (d0 + 3) j = I (d1 + 3) j ∧ I' (d0 + 4) j = I (d1 + 4) j) ∧ (∀ j, j < 421 → I' (d0 + 5) j = I (d1 + 5) j ∧ I' (d0 + 6) j = I (d1 + 6) j ∧ I' (d0 + 7) j = I (d1 + 7) j ∧ I' (d0 + 8) j = I (d1 + 8) j) ∧ ∀ j, j < 288 → I' (d0 + 9) j = I (d1 + 9) j) ∧ ∀ a, ¬ (d0 ≤ a ∧ a ≤ d0 + 9) → I' a = I a := by
  refine ⟨_, BX0_copy_0 h0 h1 (fun I1 e1 I2 e2 => ⟨_, S_copyRow (by decide) (zDy_a1 h1) (zDy_a1 h0), _, S_copyRow (by decide) (zDy_a2 h1) (zDy_a2 h0), _, S_copyRow (by decide) (zDy_a3 h1) (zDy_a3 h0), _, S_copyRow (by decide) (zDy_a4 h1) (zDy_a4 h0), _, S_copyRow (by decide) (zDy_a5 h1) (zDy_a5 h0), _, S_copyRow (by decide) (zDy_a6 h1) (zDy_a6 h0), _, S_copyRow (by decide) (zDy_a7 h1) (zDy_a7 h0), _, S_copyRow (by decide) (zDy_a8 h1) (zDy_a8 h0), _, S_copyRow (by decide) (zDy_a9 h1) (zDy_a9 h0), by rw [e2, e1]⟩), ⟨?_, ?_⟩, ⟨fun j hj => ?_, fun j hj => ?_, fun j hj => ?_⟩, fun a ha => ?_⟩
  · rw [zrw_ne (by omega), zrw_ne (by omega), zrw_ne (by omega), zrw_ne (by omega), zrw_ne (by omega), zrw_ne (by omega), zrw_ne (by omega), zrw_ne (by omega), zrw_ne (by omega), zu_k (by decide), zu_eq]
  · rw [zrw_ne (by omega), zrw_ne (by omega), zrw_ne (by omega), zrw_ne (by omega), zrw_ne (by omega), zrw_ne (by omega), zrw_ne (by omega), zrw_ne (by omega), zrw_ne (by omega), zu_eq, zu_a (by omega)]
  · refine ⟨?_, ?_, ?_, ?_⟩ <;> (repeat rw [zrw_ne (by omega)]) <;> rw [zrw_at0 hj] <;> (repeat rw [zrw_ne (by omega)]) <;> rw [zu_a (by omega), zu_a (by omega)]
  · refine ⟨?_, ?_, ?_, ?_⟩ <;> (repeat rw [zrw_ne (by omega)]) <;> rw [zrw_at0 hj] <;> (repeat rw [zrw_ne (by omega)]) <;> rw [zu_a (by omega), zu_a (by omega)]
  · (repeat rw [zrw_ne (by omega)]); rw [zrw_at0 hj]; (repeat rw [zrw_ne (by omega)]); rw [zu_a (by omega), zu_a (by omega)]
  · (repeat rw [zrw_ne (by omega)]); rw [zu_ne (by omega), zu_ne (by omega)]
theorem C_copyE {d0 d1 : Nat} (h0 : zDy Z d0) (h1 : zDy Z d1) (hne : d0 + 9 < d1 ∨ d1 + 9 < d0) {I : zI} (hW : zTW τ Λ) (hC : zCE I d1 τ ρ) (hD : zDW τ ρ) : ∃ I', zE (d + 2) kX0_copy 0 [some (.ref d0), some (.ref d1)] [] Z I J (none, Z, I', J) ∧ zCE I' d0 τ ρ ∧ ∀ a, ¬ (d0 ≤ a ∧ a ≤ d0 + 9) → I' a = I a := by
  obtain ⟨I', g1, ⟨g2, g3⟩, ⟨g4, g5, g6⟩, g7⟩ := C_copy (d := d) (J := J) h0 h1 hne (I := I)
  have hH := hD.h hW
  have h7 := hW.1.1
  refine ⟨I', g1, ⟨⟨by rw [g3]; exact hC.1.1, fun m hm => ?_, fun q hq => ?_, fun s hs => ?_⟩, by rw [g2]; exact hC.2.1, ?_⟩, g7⟩
  · obtain ⟨a, b, c, e⟩ := g4 m (by omega)
    rw [a, b, c, e]; exact hC.1.2.1 m hm
  · have := zlive_lt hH hq
    obtain ⟨a, b, c, e⟩ := g5 (q + 1) (by omega)
    rw [a, b, c, e]; exact hC.1.2.2.1 q hq
  · rw [g6 _ (zenc_lt hs)]; exact hC.1.2.2.2 s hs
  · rw [(g5 0 (by decide)).2.2.2]; exact hC.2.2
end
