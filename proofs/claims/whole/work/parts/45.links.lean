/-! waits, knows, links, rounds -/
theorem zb_low : ∀ a, a < 128 → ∀ m, m < 7 → a.testBit m = true → (∀ j, j < m → a.testBit j = false) → nI a &&& (0 - nI a) = nI (2 ^ m) := by decide +kernel
theorem zb_z {a : Nat} (ha : a < 128) (h : a ≠ 0) : ∃ m, m < 7 ∧ a.testBit m = true ∧ ∀ j, j < m → a.testBit j = false := by
  have : ∀ a, a < 128 → a ≠ 0 → ∃ m, m < 7 ∧ a.testBit m = true ∧ ∀ j, j < m → a.testBit j = false := by decide +kernel
  exact this a ha h
theorem zb_sd {a c : Nat} (ha : a < 128) (hc : c < 128) : nI a &&& (nI c ^^^ (-1)) = nI (a &&& (127 ^^^ c)) := zb_andn a ha c hc
theorem zb_dt {a c o : Nat} (ho : o < 7) : (a &&& (127 ^^^ c)).testBit o = (a.testBit o && !c.testBit o) := by
  have t127 : (127 : Nat).testBit o = true := by
    have : ∀ m, m < 7 → (127 : Nat).testBit m = true := by decide
    exact this o ho
  rw [Nat.testBit_and, Nat.testBit_xor, t127]
  cases c.testBit o <;> simp
/-- all whom these know, and these -/
def zwd (K : Nat → Nat) (S : Nat) : Nat → Nat
  | 0 => S
  | n + 1 => zwd K S n ||| (if S.testBit n = true then K n else 0)
theorem zwd_lt {K : Nat → Nat} {S n : Nat} (hS : S < 128) (hK : ∀ m, m < n → K m < 128) : zwd K S n < 128 := by
  induction n with
  | zero => exact hS
  | succ n ih =>
    simp only [zwd]
    refine zb_lt (ih (fun m hm => hK m (by omega))) ?_
    split
    · exact hK n (by omega)
    · decide
theorem zwd_bit {K : Nat → Nat} {S n o : Nat} : (zwd K S n).testBit o = true ↔ S.testBit o = true ∨ ∃ m, m < n ∧ S.testBit m = true ∧ (K m).testBit o = true := by
  induction n with
  | zero => simp [zwd]
  | succ n ih =>
    simp only [zwd, Nat.testBit_or, Bool.or_eq_true, ih]
    constructor
    · rintro ((h | ⟨m, h1, h2⟩) | h)
      · exact Or.inl h
      · exact Or.inr ⟨m, by omega, h2⟩
      · by_cases q : S.testBit n = true
        · rw [if_pos q] at h; exact Or.inr ⟨n, by omega, q, h⟩
        · rw [if_neg q] at h; simp at h
    · rintro (h | ⟨m, h1, h2, h3⟩)
      · exact Or.inl (Or.inl h)
      · by_cases e : m = n
        · subst e; right; rw [if_pos h2]; exact h3
        · exact Or.inl (Or.inr ⟨m, by omega, h2, h3⟩)
theorem zwd_more {K : Nat → Nat} {S n k : Nat} (hS : S < 128) (hk : n + k = 7) (hK : ∀ m, m < 7 → K m < 128) (hz : ∀ m, n ≤ m → K m = 0) : zwd K S 7 = zwd K S n := by
  refine zb_ext (zwd_lt hS hK) (zwd_lt hS (fun m hm => hK m (by omega))) (fun o ho => ?_)
  rw [Bool.eq_iff_iff, zwd_bit, zwd_bit]
  constructor
  · rintro (h | ⟨m, h1, h2, h3⟩)
    · exact Or.inl h
    · by_cases e : m < n
      · exact Or.inr ⟨m, e, h2, h3⟩
      · rw [hz m (by omega)] at h3; simp at h3
  · rintro (h | ⟨m, h1, h2, h3⟩)
    · exact Or.inl h
    · exact Or.inr ⟨m, by omega, h2, h3⟩
section
variable {d : Nat} {Z : zZ} {J : zJ} {I I' : zI} {t u v b : Nat} {τ : Nat → Nat → Nat} {Λ : Nat → Option zLaw} {ρ : Nat → Nat}
theorem zmv (h : zR0 Z I t u v τ Λ b ρ) : vp_in (I 420 18) 2 ∧ I 431 (I 420 18).toNatClampNeg = nI (τ 0 0) := by
  have hv2 := h.M.1.1
  rw [h.M.1.2]
  exact ⟨zvin hv2 (by decide), by rw [zclm (by omega)]; exact h.M.2.1.1⟩
theorem M_fillsWaits (h : zR0 Z I t u v τ Λ b ρ) (hR : zRM I 458 0 ρ) : ∃ I', zE (d + 1) kX12_fillsWaits 0 [some (.ref 420), none, none, none] [] Z I J (some (.int (nI (zbs (zthr ρ true) (τ 0 0)))), Z, I', J) ∧ (∀ m, m < τ 0 0 → I' 461 m = nI (zWs τ ρ m)) ∧ ∀ a, a ≠ 461 → I' a = I a := by
  have h7 := h.n7
  have outer : ∀ m, m ≤ τ 0 0 → ∀ I1 : zI, (∀ a, a ≠ 461 → I1 a = I a) → (∀ j, j < m → I1 461 j = nI (zWs τ ρ j)) → ∃ I', zE (d + 1) kX12_fillsWaits 4 [some (.ref 420), some (.int (nI (zbs (zthr ρ true) m))), some (.int (nI m)), none] [] Z I1 J (some (.int (nI (zbs (zthr ρ true) (τ 0 0)))), Z, I', J) ∧ (∀ m, m < τ 0 0 → I' 461 m = nI (zWs τ ρ m)) ∧ ∀ a, a ≠ 461 → I' a = I a := by
    refine zloop _ _ ?_ ?_
    · intro I1 f1 f2
      have h1 : zR0 Z I1 t u v τ Λ b ρ := h.sc (zscr.of fun a p _ => f1 a (fun e => p (by subst e; decide)))
      have hm := zmv h1
      exact ⟨I1, BX12_fillsWaits_4 _ _ h.L ⟨hm.1, fun _ => rfl, fun q => absurd (by rw [hm.2]; exact Int32.le_refl _) q⟩, f2, f1⟩
    · intro m hm ih I1 f1 f2
      have h1 : zR0 Z I1 t u v τ Λ b ρ := h.sc (zscr.of fun a p _ => f1 a (fun e => p (by subst e; decide)))
      have hmv := zmv h1
      have inner : ∀ o, o ≤ τ 0 0 → ∀ I2 : zI, (∀ a, a ≠ 461 → I2 a = I a) → (∀ j, j < m → I2 461 j = nI (zWs τ ρ j)) → I2 461 m = nI (zbs (fun o => !decide (o = m) && decide (0 < zov ρ o m)) o) → ∃ I', zE (d + 1) kX12_fillsWaits 44 [some (.ref 420), some (.int (nI (zbs (zthr ρ true) (m + 1)))), some (.int (nI m)), some (.int (nI o))] [] Z I2 J (some (.int (nI (zbs (zthr ρ true) (τ 0 0)))), Z, I', J) ∧ (∀ m, m < τ 0 0 → I' 461 m = nI (zWs τ ρ m)) ∧ ∀ a, a ≠ 461 → I' a = I a := by
        refine zloop _ _ ?_ ?_
        · intro I2 g1 g2 g3
          have h2 : zR0 Z I2 t u v τ Λ b ρ := h.sc (zscr.of fun a p _ => g1 a (fun e => p (by subst e; decide)))
          have hmv2 := zmv h2
          obtain ⟨I', k1, k2⟩ := ih I2 g1 (fun j hj => by
            by_cases e : j = m
            · subst e; rw [g3]; unfold zWs; rw [if_pos hm]
            · exact g2 j (by omega))
          exact ⟨I', BX12_fillsWaits_44 _ _ _ h.L ⟨hmv2.1, fun _ => by rw [zadd1]; exact k1, fun q => absurd (by rw [hmv2.2]; exact Int32.le_refl _) q⟩, k2⟩
        · intro o ho ih2 I2 g1 g2 g3
          have h2 : zR0 Z I2 t u v τ Λ b ρ := h.sc (zscr.of fun a p _ => g1 a (fun e => p (by subst e; decide)))
          have hmv2 := zmv h2
          have hR2 : zRM I2 458 0 ρ := fun k hk => by rw [g1 458 (by decide)]; exact hR k hk
          have hov := zov_le h.H ho hm
          have nn : ¬ I2 431 (I2 420 18).toNatClampNeg ≤ nI o := by rw [hmv2.2, zle' (by omega) (by omega)]; omega
          by_cases e : o = m
          · obtain ⟨I', k1, k2⟩ := ih2 I2 g1 g2 (by rw [g3, zbs_f (P := fun o => !decide (o = m) && decide (0 < zov ρ o m)) (n := o) (by simp [e])])
            exact ⟨I', BX12_fillsWaits_44 _ _ _ h.L ⟨hmv2.1, fun q => absurd q nn, fun _ => ⟨fun _ => by rw [zadd1]; exact k1, fun q => absurd ((zeq (by omega) (by omega)).mpr e) q⟩⟩, k2⟩
          · have ne : ¬ nI o = nI m := fun z => e ((zeq (by omega) (by omega)).mp z)
            by_cases p : 0 < zov ρ o m
            · have hs := zbs_t (P := fun o => !decide (o = m) && decide (0 < zov ρ o m)) (n := o) (by omega) (by simp [e, p])
              obtain ⟨I', k1, k2⟩ := ih2 (zu I2 461 m (nI (zbs (fun o => !decide (o = m) && decide (0 < zov ρ o m)) (o + 1)))) (fun a ha => by rw [zu_ne ha]; exact g1 a ha) (fun j hj => by rw [zu_k (by omega)]; exact g2 j hj) zu_eq
              refine ⟨I', BX12_fillsWaits_44 _ _ _ h.L ⟨hmv2.1, fun q => absurd q nn, fun _ => ⟨fun q => absurd q ne, fun _ => ⟨_, M_overOf h.L h.H hR2 h.B ho hm, fun q => ?_, fun _ => ⟨zvin (by omega) (by decide), zvin (by omega) (by decide), fun I3 e3 => ?_⟩⟩⟩⟩, k2⟩
              · exfalso; rw [show (0 : Int32) = nI 0 from rfl, zle' (by omega) (by decide)] at q; omega
              · rw [zclm (by omega), g3, hs] at e3
                rw [e3, zadd1]; exact k1
            · obtain ⟨I', k1, k2⟩ := ih2 I2 g1 g2 (by rw [g3, zbs_f (P := fun o => !decide (o = m) && decide (0 < zov ρ o m)) (n := o) (by simp [p])])
              refine ⟨I', BX12_fillsWaits_44 _ _ _ h.L ⟨hmv2.1, fun q => absurd q nn, fun _ => ⟨fun q => absurd q ne, fun _ => ⟨_, M_overOf h.L h.H hR2 h.B ho hm, fun _ => by rw [zadd1]; exact k1, fun q => ?_⟩⟩⟩, k2⟩
              exfalso; apply q; rw [show (0 : Int32) = nI 0 from rfl, zle' (by omega) (by decide)]; omega
      have b14 := h.B (14 + m) (by omega)
      have r14 : ∀ x, zu I1 461 (nI m).toNatClampNeg x 458 ((14 : Int32) + nI m).toNatClampNeg = nI (ρ (14 + m)) := fun x => by rw [zu_a (by decide), f1 458 (by decide), zk_14, zclm (by omega)]; exact hR.at (by omega)
      obtain ⟨I', k1, k2⟩ := inner 0 (Nat.zero_le _) (zu I1 461 m 0) (fun a ha => by rw [zu_ne ha]; exact f1 a ha) (fun j hj => by rw [zu_k (by omega)]; exact f2 j hj) (by rw [zu_eq]; rfl)
      refine ⟨I', BX12_fillsWaits_4 _ _ h.L ⟨hmv.1, fun q => ?_, fun _ => ⟨zvin (by omega) (by decide), fun I2 e2 => ⟨by rw [zk_14]; exact zvin (by omega) (by decide), fun q => ?_, fun q y ey => ?_⟩⟩⟩, k2⟩
      · exfalso; rw [hmv.2, zle' (by omega) (by omega)] at q; omega
      · rw [e2, r14, show (0 : Int32) = nI 0 from rfl, zle' (by omega) (by decide)] at q
        rw [zbs_f (P := zthr ρ true) (n := m) (by unfold zthr; simp; omega)] at k1
        rw [zclm (by omega)] at e2
        rw [e2]; exact k1
      · rw [e2, r14, show (0 : Int32) = nI 0 from rfl, zle' (by omega) (by decide)] at q
        rw [zbs_t (P := zthr ρ true) (by omega) (by unfold zthr; simp; omega)] at ey
        rw [zclm (by omega)] at e2
        rw [e2, ey]; exact k1
  obtain ⟨I', k1, k2, k3⟩ := outer 0 (Nat.zero_le _) I (fun _ _ => rfl) (fun j hj => absurd hj (by omega))
  exact ⟨I', BX12_fillsWaits_0 h.L k1, k2, k3⟩
theorem M_knowsNow (h : zR0 Z I t u v τ Λ b ρ) (hR : zRM I 458 0 ρ) {m : Nat} (hm : m < τ 0 0) : zE (d + 1) kX12_knowsNow 0 [some (.ref 420), some (.int (nI m)), none, none] [] Z I J (some (.int (nI (zKs τ ρ m))), Z, I, J) := by
  have h7 := h.n7
  have hmv := zmv h
  have loop : ∀ o, o ≤ τ 0 0 → zE (d + 1) kX12_knowsNow 4 [some (.ref 420), some (.int (nI m)), some (.int (nI (zbs (fun o => !decide (o = m) && (decide (0 < zov ρ m o) || decide (0 < zov ρ o m))) o))), some (.int (nI o))] [] Z I J (some (.int (nI (zKs τ ρ m))), Z, I, J) := by
    refine zloop _ _ ?_ ?_
    · refine BX12_knowsNow_4 _ _ _ h.L ⟨hmv.1, fun _ => ?_, fun q => absurd (by rw [hmv.2]; exact Int32.le_refl _) q⟩
      unfold zKs; rw [if_pos hm]
    · intro o ho ih
      have o1 := zov_le h.H ho hm
      have o2 := zov_le h.H hm ho
      have nn : ¬ I 431 (I 420 18).toNatClampNeg ≤ nI o := by rw [hmv.2, zle' (by omega) (by omega)]; omega
      have p1 : (0 : Int32) < nI (zov ρ m o) ↔ 0 < zov ρ m o := zlt (a := 0) (by omega) (by omega)
      have p2 : nI (zov ρ o m) ≤ (0 : Int32) ↔ ¬ 0 < zov ρ o m := by rw [show (0 : Int32) = nI 0 from rfl, zle' (by omega) (by decide)]; omega
      have yes : o ≠ m → (0 < zov ρ m o ∨ 0 < zov ρ o m) → nI (zbs (fun o => !decide (o = m) && (decide (0 < zov ρ m o) || decide (0 < zov ρ o m))) o) ||| ((1 : Int32) <<< (nI o &&& 31)) = nI (zbs (fun o => !decide (o = m) && (decide (0 < zov ρ m o) || decide (0 < zov ρ o m))) (o + 1)) := fun e z => zbs_t (P := fun o => !decide (o = m) && (decide (0 < zov ρ m o) || decide (0 < zov ρ o m))) (by omega) (by rcases z with z | z <;> simp [e, z])
      have no : (o = m ∨ (¬ 0 < zov ρ m o ∧ ¬ 0 < zov ρ o m)) → zbs (fun o => !decide (o = m) && (decide (0 < zov ρ m o) || decide (0 < zov ρ o m))) (o + 1) = zbs (fun o => !decide (o = m) && (decide (0 < zov ρ m o) || decide (0 < zov ρ o m))) o := fun z => zbs_f (P := fun o => !decide (o = m) && (decide (0 < zov ρ m o) || decide (0 < zov ρ o m))) (by rcases z with z | ⟨z1, z2⟩; simp [z]; simp [z1, z2])
      refine BX12_knowsNow_4 _ _ _ h.L ⟨hmv.1, fun q => absurd q nn, fun _ => ⟨fun q => ?_, fun q => ⟨_, M_overOf h.L h.H hR h.B hm ho, fun q2 y ey => ?_, fun q2 => ⟨_, M_overOf h.L h.H hR h.B ho hm, fun q3 => ?_, fun q3 y ey => ?_⟩⟩⟩⟩
      · rw [zeq (by omega) (by omega)] at q
        rw [no (Or.inl q)] at ih; rw [zadd1]; exact ih
      all_goals rw [zeq (by omega) (by omega)] at q
      · rw [ey, yes q (Or.inl (p1.mp q2)), zadd1]; exact ih
      · rw [no (Or.inr ⟨fun z => q2 (p1.mpr z), p2.mp q3⟩)] at ih; rw [zadd1]; exact ih
      · rw [ey, yes q (Or.inr (Classical.byContradiction fun z => q3 (p2.mpr z))), zadd1]; exact ih
  exact BX12_knowsNow_0 _ h.L (loop 0 (Nat.zero_le _))
theorem M_linkedTo (h : zR0 Z I t u v τ Λ b ρ) (hR : zRM I 458 0 ρ) {S : Nat} (hS : S < 128) : zE (d + 2) kX12_linkedTo 0 [some (.ref 420), some (.int (nI S)), none, none] [] Z I J (some (.int (nI (zwd (zKs τ ρ) S 7))), Z, I, J) := by
  have h7 := h.n7
  have hmv := zmv h
  have hK := fun m => zKs_lt (ρ := ρ) h7 m
  have loop : ∀ m, m ≤ τ 0 0 → zE (d + 2) kX12_linkedTo 4 [some (.ref 420), some (.int (nI S)), some (.int (nI (zwd (zKs τ ρ) S m))), some (.int (nI m))] [] Z I J (some (.int (nI (zwd (zKs τ ρ) S 7))), Z, I, J) := by
    refine zloop _ _ ?_ ?_
    · refine BX12_linkedTo_4 _ _ _ h.L ⟨hmv.1, fun _ => ?_, fun q => absurd (by rw [hmv.2]; exact Int32.le_refl _) q⟩
      rw [zwd_more (n := τ 0 0) (k := 7 - τ 0 0) hS (by omega) (fun m _ => hK m) (fun m hm => by unfold zKs; rw [if_neg (by omega)])]
    · intro m hm ih
      have hb := zb_bit1 (m := m) hS (by omega)
      simp only [zwd] at ih
      refine BX12_linkedTo_4 _ _ _ h.L ⟨hmv.1, fun q => ?_, fun _ => ⟨fun q => ?_, fun q => ⟨_, M_knowsNow h hR hm, ?_⟩⟩⟩
      · exfalso; rw [hmv.2, zle' (by omega) (by omega)] at q; omega
      · rw [hb] at q; rw [if_neg q, Nat.or_zero] at ih; rw [zadd1]; exact ih
      · rw [hb] at q; rw [if_pos q] at ih
        rw [zadd1, zb_or _ (zwd_lt hS (fun m _ => hK m)) _ (hK m)]; exact ih
  exact BX12_linkedTo_0 _ h.L (loop 0 (Nat.zero_le _))
theorem C_widened (hL : zLY Z t u) {K : Nat → Nat} (hK : ∀ m, m < 7 → I 403 m = nI (K m) ∧ K m < 128) {S : Nat} (hS : S < 128) : zE (d + 1) kX7_widened 0 [some (.ref 401), some (.int (nI S)), none, none] [] Z I J (some (.int (nI (zwd K S 7))), Z, I, J) := by
  have loop : ∀ m, m ≤ 7 → zE (d + 1) kX7_widened 4 [some (.ref 401), some (.int (nI S)), some (.int (nI (zwd K S m))), some (.int (nI m))] [] Z I J (some (.int (nI (zwd K S 7))), Z, I, J) := by
    refine zloop _ _ ?_ ?_
    · exact BX7_widened_4 _ _ _ hL ⟨fun _ => rfl, fun q => absurd (by decide) q⟩
    · intro m hm ih
      have hb := zb_bit0 (m := m) hS (by omega)
      obtain ⟨k1, k2⟩ := hK m hm
      simp only [zwd] at ih
      refine BX7_widened_4 _ _ _ hL ⟨fun q => ?_, fun _ => ⟨fun q => ?_, fun q y ey => ?_⟩⟩
      · exfalso; rw [show (7 : Int32) = nI 7 from rfl, zle' (by decide) (by omega)] at q; omega
      · rw [hb] at q; rw [if_neg (by rw [q]; decide), Nat.or_zero] at ih; rw [zadd1]; exact ih
      · rw [hb] at q; rw [if_pos (by simpa using q)] at ih
        rw [zatI hm (by decide), k1, zb_or _ (zwd_lt hS (fun m hm => (hK m (by omega)).2)) _ k2] at ey
        rw [ey, zadd1]; exact ih
  exact BX7_widened_0 _ hL (loop 0 (Nat.zero_le _))
theorem Q_waits (h : zR0 Z I t u v τ Λ b ρ) (x : Int32) : zQ2 kX11_waits kX12_waits [some (.ref 0), some (.int x)] [some (.ref 420), some (.int x)] Z I J := by
  have h7 := h.n7
  by_cases hx : zism τ x
  · obtain ⟨m, hm, rfl⟩ := (zism_iff h7 x).mp hx
    have nm : ¬ zbi (zism τ (nI m)) = 0 := zbi_ne0.mpr hx
    obtain ⟨I1, g1, g2, g3, g4⟩ := C_look (d := 7) (J := J) h
    refine zQ2.of h (nI (zWs τ ρ m)) ⟨I1, BX11_waits_0 (d := 7) _ h.L ⟨_, C_isMan h.L h7 h.men, fun _ => ⟨I1, g1, by rw [zatI (by omega) (by decide), (g4 m (by omega)).1]⟩, fun q => absurd q nm⟩, g2⟩ (fun I2 h2 => ?_)
    obtain ⟨I3, k1, k2, k3, k4, k5⟩ := M_cop (d := 9) (J := J) h2
    obtain ⟨I4, l1, l2, l3⟩ := M_fillsWaits (d := 8) (J := J) k2 k3
    exact ⟨I4, BX12_waits_0 (d := 8) _ h2.L ⟨_, M_isMan h2.L h2.W h2.M, fun _ => ⟨I3, k1, _, I4, l1, zvin (by omega) (by decide), by rw [zclm (by omega), l2 m hm]⟩, fun q => absurd q nm⟩, k5.tr (zscr.of fun a p _ => l3 a (fun e => p (by subst e; decide)))⟩
  · have nm : zbi (zism τ x) = 0 := zbi_eq0.mpr hx
    exact zQ2.of h (-1) ⟨I, BX11_waits_0 (d := 7) _ h.L ⟨_, C_isMan h.L h7 h.men, fun q => absurd nm q, fun _ => rfl⟩, zscr.rf⟩ (fun I1 h => ⟨I1, BX12_waits_0 (d := 8) _ h.L ⟨_, M_isMan h.L h.W h.M, fun q => absurd nm q, fun _ => rfl⟩, zscr.rf⟩)
theorem Q_knows (h : zR0 Z I t u v τ Λ b ρ) (x : Int32) : zQ2 kX11_knows kX12_knows [some (.ref 0), some (.int x)] [some (.ref 420), some (.int x)] Z I J := by
  have h7 := h.n7
  by_cases hx : zism τ x
  · obtain ⟨m, hm, rfl⟩ := (zism_iff h7 x).mp hx
    have nm : ¬ zbi (zism τ (nI m)) = 0 := zbi_ne0.mpr hx
    obtain ⟨I1, g1, g2, g3, g4⟩ := C_look (d := 7) (J := J) h
    refine zQ2.of h (nI (zKs τ ρ m)) ⟨I1, BX11_knows_0 (d := 7) _ h.L ⟨_, C_isMan h.L h7 h.men, fun _ => ⟨I1, g1, by rw [zatI (by omega) (by decide), (g4 m (by omega)).2]⟩, fun q => absurd q nm⟩, g2⟩ (fun I2 h2 => ?_)
    obtain ⟨I3, k1, k2, k3, k4, k5⟩ := M_cop (d := 9) (J := J) h2
    exact ⟨I3, BX12_knows_0 (d := 8) _ h2.L ⟨_, M_isMan h2.L h2.W h2.M, fun _ => ⟨I3, k1, _, M_knowsNow k2 k3 hm, rfl⟩, fun q => absurd q nm⟩, k5⟩
  · have nm : zbi (zism τ x) = 0 := zbi_eq0.mpr hx
    exact zQ2.of h (-1) ⟨I, BX11_knows_0 (d := 7) _ h.L ⟨_, C_isMan h.L h7 h.men, fun q => absurd nm q, fun _ => rfl⟩, zscr.rf⟩ (fun I1 h => ⟨I1, BX12_knows_0 (d := 8) _ h.L ⟨_, M_isMan h.L h.W h.M, fun q => absurd nm q, fun _ => rfl⟩, zscr.rf⟩)
/-- LINKS -/
def zlk (K : Nat → Nat) (o : Nat) : Nat → Nat → Nat → Int32
  | 0, _, _ => -2
  | f + 1, n, S => if (zwd K S 7).testBit o = true then nI n else zlk K o f (n + 1) (zwd K S 7)
theorem Q_links (h : zR0 Z I t u v τ Λ b ρ) (x y : Int32) : zQ2 kX11_links kX12_links [some (.ref 0), some (.int x), some (.int y)] [some (.ref 420), some (.int x), some (.int y), none, none] Z I J := by
  have h7 := h.n7
  by_cases hc : zis2 τ x y
  · obtain ⟨m, hm, rfl⟩ := (zism_iff h7 x).mp hc.1
    obtain ⟨o, ho, rfl⟩ := (zism_iff h7 y).mp hc.2.1
    have n2 : ¬ zbi (zis2 τ (nI m) (nI o)) = 0 := zbi_ne0.mpr hc
    have hK := fun m => zKs_lt (ρ := ρ) h7 m
    obtain ⟨I1, g1, g2, g3, g4⟩ := C_look (d := 7) (J := J) h
    have cl : ∀ n, n ≤ 7 → ∀ S, S < 128 → zE 9 kX7_countLinks 7 [some (.ref 401), none, some (.int (nI o)), some (.int (nI S)), some (.int (nI n))] [] Z I1 J (some (.int (zlk (zKs τ ρ) o (7 - n) n S)), Z, I1, J) := by
      refine zloop _ _ ?_ ?_
      · intro S hS
        exact BX7_countLinks_7 (d := 7) _ _ _ h.L ⟨fun _ => rfl, fun q => absurd (by decide) q⟩
      · intro n hn ih S hS
        have hS' := zwd_lt (n := 7) hS (fun m _ => hK m)
        have hb := zb_bit0 (m := o) hS' (by omega)
        rw [show 7 - n = (7 - (n + 1)) + 1 by omega]
        simp only [zlk]
        refine BX7_countLinks_7 (d := 7) _ _ _ h.L ⟨fun q => ?_, fun _ => ⟨_, C_widened h.L (fun m hm => ⟨(g4 m hm).2, hK m⟩) hS, fun q => ?_, fun q => ?_⟩⟩
        · exfalso; rw [show (7 : Int32) = nI 7 from rfl, zle' (by decide) (by omega)] at q; omega
        · rw [hb] at q; rw [if_neg (by rw [q]; decide), zadd1]; exact ih _ hS'
        · rw [hb] at q; rw [if_pos (by simpa using q)]
    have c0 := cl 1 (by decide) (2 ^ m) (zb_p m (by omega))
    refine zQ2.of h _ ⟨I1, BX11_links_0 (d := 7) _ _ h.L ⟨_, C_areTwo h.L h7 h.men, fun _ => ⟨I1, g1, _, BX7_countLinks_0 _ _ h.L (fun y1 ey => by rw [ey, zb_one m (by omega)]; exact c0), rfl⟩, fun q => absurd q n2⟩, g2⟩ (fun I2 h2 => ?_)
    obtain ⟨I3, k1, k2, k3, k4, k5⟩ := M_cop (d := 9) (J := J) h2
    have ml : ∀ n, n ≤ 7 → ∀ S, S < 128 → zE 10 kX12_links 22 [some (.ref 420), none, some (.int (nI o)), some (.int (nI S)), some (.int (nI n))] [] Z I3 J (some (.int (zlk (zKs τ ρ) o (7 - n) n S)), Z, I3, J) := by
      refine zloop _ _ ?_ ?_
      · intro S hS
        exact BX12_links_22 (d := 7) _ _ _ h.L ⟨fun _ => rfl, fun q => absurd (by decide) q⟩
      · intro n hn ih S hS
        have hS' := zwd_lt (n := 7) hS (fun m _ => hK m)
        have hb := zb_bit1 (m := o) hS' (by omega)
        rw [show 7 - n = (7 - (n + 1)) + 1 by omega]
        simp only [zlk]
        refine BX12_links_22 (d := 7) _ _ _ h.L ⟨fun q => ?_, fun _ => ⟨_, M_linkedTo k2 k3 hS, fun q => ?_, fun q => ?_⟩⟩
        · exfalso; rw [show (7 : Int32) = nI 7 from rfl, zle' (by decide) (by omega)] at q; omega
        · rw [hb] at q; rw [if_neg q, zadd1]; exact ih _ hS'
        · rw [hb] at q; rw [if_pos q]
    exact ⟨I3, BX12_links_0 (d := 7) _ _ h2.L ⟨_, M_areTwo h2.L h2.W h2.M, fun _ => ⟨I3, k1, fun y3 e3 => by rw [e3, zb_one m (by omega)]; exact ml 1 (by decide) (2 ^ m) (zb_p m (by omega))⟩, fun q => absurd q n2⟩, k5⟩
  · have n2 : zbi (zis2 τ x y) = 0 := zbi_eq0.mpr hc
    exact zQ2.of h (-1) ⟨I, BX11_links_0 (d := 7) _ _ h.L ⟨_, C_areTwo h.L h7 h.men, fun q => absurd n2 q, fun _ => rfl⟩, zscr.rf⟩ (fun I1 h => ⟨I1, BX12_links_0 (d := 7) _ _ h.L ⟨_, M_areTwo h.L h.W h.M, fun q => absurd n2 q, fun _ => rfl⟩, zscr.rf⟩)
-- ROUNDS
def zcl (K : Nat → Nat) : Nat → Nat → Nat
  | 0, S => S
  | f + 1, S => zcl K f (zwd K S 7)
theorem zcl_lt {K : Nat → Nat} (hK : ∀ m, m < 7 → K m < 128) : ∀ (f S : Nat), S < 128 → zcl K f S < 128 := by
  intro f
  induction f with
  | zero => intro S h; exact h
  | succ f ih => intro S h; exact ih _ (zwd_lt h hK)
theorem zwd_or {K : Nat → Nat} (hK : ∀ m, m < 7 → K m < 128) {S T : Nat} (hS : S < 128) (hT : T < 128) : zwd K (S ||| T) 7 = zwd K S 7 ||| zwd K T 7 := by
  refine zb_ext (zwd_lt (zb_lt hS hT) hK) (zb_lt (zwd_lt hS hK) (zwd_lt hT hK)) (fun o ho => ?_)
  rw [Bool.eq_iff_iff, Nat.testBit_or, Bool.or_eq_true, zwd_bit, zwd_bit, zwd_bit]
  constructor
  · rintro (h | ⟨m, h1, h2, h3⟩)
    · rw [Nat.testBit_or, Bool.or_eq_true] at h
      rcases h with h | h
      · exact Or.inl (Or.inl h)
      · exact Or.inr (Or.inl h)
    · rw [Nat.testBit_or, Bool.or_eq_true] at h2
      rcases h2 with h2 | h2
      · exact Or.inl (Or.inr ⟨m, h1, h2, h3⟩)
      · exact Or.inr (Or.inr ⟨m, h1, h2, h3⟩)
  · rintro ((h | ⟨m, h1, h2, h3⟩) | (h | ⟨m, h1, h2, h3⟩))
    · left; rw [Nat.testBit_or, h, Bool.true_or]
    · right; exact ⟨m, h1, by rw [Nat.testBit_or, h2, Bool.true_or], h3⟩
    · left; rw [Nat.testBit_or, h, Bool.or_true]
    · right; exact ⟨m, h1, by rw [Nat.testBit_or, h2, Bool.or_true], h3⟩
theorem zcl_or {K : Nat → Nat} (hK : ∀ m, m < 7 → K m < 128) : ∀ (f S T : Nat), S < 128 → T < 128 → zcl K f (S ||| T) = zcl K f S ||| zcl K f T := by
  intro f
  induction f with
  | zero => intro S T _ _; rfl
  | succ f ih => intro S T hS hT; simp only [zcl]; rw [zwd_or hK hS hT]; exact ih _ _ (zwd_lt hS hK) (zwd_lt hT hK)
theorem zcl_fix {K : Nat → Nat} {S : Nat} (h : zwd K S 7 = S) : ∀ f, zcl K f S = S := by
  intro f
  induction f with
  | zero => rfl
  | succ f ih => simp only [zcl]; rw [h]; exact ih
theorem zcd_le7 (S : Nat) : zcd S 7 ≤ 7 := by
  have := zsum_le (f := fun m => (S.testBit m).toNat) (b := 1) (i := 0) (k := 7) (fun j _ _ => by cases S.testBit j <;> decide)
  unfold zcd; omega
theorem zcd_mono {S T : Nat} (hS : S < 128) (hT : T < 128) (h : ∀ o, S.testBit o = true → T.testBit o = true) (hne : S ≠ T) : zcd S 7 < zcd T 7 := by
  obtain ⟨o, ho, hs, ht⟩ : ∃ o, o < 7 ∧ S.testBit o = false ∧ T.testBit o = true := by
    apply Classical.byContradiction
    intro hn
    apply hne
    refine zb_ext hS hT (fun o ho => ?_)
    cases hs : S.testBit o with
    | true => exact (h o hs).symm
    | false =>
      cases ht : T.testBit o with
      | false => rfl
      | true => exact absurd ⟨o, ho, hs, ht⟩ hn
  have hle : zcd (S ||| 2 ^ o) 7 ≤ zcd T 7 := ?_
  · rw [zcd_set ho hs] at hle; omega
  refine zsum_mono fun m _ _ => ?_
  rw [Nat.testBit_or, zb_tp]
  by_cases e : o = m
  · subst e; rw [ht, hs]; simp
  · rw [decide_eq_false e, Bool.or_false]
    cases hsm : S.testBit m with
    | false => exact Nat.zero_le _
    | true => rw [h m hsm]; exact Nat.le_refl _
/-- after 7 widenings nothing comes in any more -/
theorem zcl_cl {K : Nat → Nat} (hK : ∀ m, m < 7 → K m < 128) : ∀ (f S : Nat), S < 128 → 7 ≤ f + zcd S 7 → zwd K (zcl K f S) 7 = zcl K f S := by
  intro f
  induction f with
  | zero =>
    intro S hS h
    simp only [zcl]
    have h7 := zcd_le7 S
    have hall : ∀ m, m < 7 → S.testBit m = true := fun m hm => by
      cases hs : S.testBit m with
      | true => rfl
      | false =>
        have := zcd_set hm hs
        have := zcd_le7 (S ||| 2 ^ m)
        omega
    refine zb_ext (zwd_lt hS hK) hS (fun o ho => ?_)
    rw [Bool.eq_iff_iff, zwd_bit]
    exact ⟨fun _ => hall o ho, Or.inl⟩
  | succ f ih =>
    intro S hS h
    simp only [zcl]
    by_cases e : zwd K S 7 = S
    · rw [e, zcl_fix e]; exact e
    · have hlt := zcd_mono hS (zwd_lt hS hK) (fun o hs => zwd_bit.mpr (Or.inl hs)) (fun z => e z.symm)
      exact ih _ (zwd_lt hS hK) (by omega)
theorem zcl_fx {K : Nat → Nat} (hK : ∀ m, m < 7 → K m < 128) {m : Nat} (hm : m < 7) : zwd K (zcl K 7 (2 ^ m)) 7 = zcl K 7 (2 ^ m) := zcl_cl hK 7 _ (zb_p m hm) (by omega)
theorem zwd_sub {K : Nat → Nat} {S o : Nat} (h : S.testBit o = true) : ∀ f, (zcl K f S).testBit o = true := by
  intro f
  induction f generalizing S with
  | zero => exact h
  | succ f ih => simp only [zcl]; exact ih (zwd_bit.mpr (Or.inl h))
/-- groups of k men from m on who are not yet in one -/
def zrd (K : Nat → Nat) (O : Nat) : Nat → Nat → Nat → Nat → Nat
  | 0, _, _, n => n
  | k + 1, m, G, n => if O.testBit m = true ∧ G.testBit m = false then zrd K O k (m + 1) (G ||| zcl K 7 (2 ^ m)) (n + 1) else zrd K O k (m + 1) G n
theorem Q_rounds (h : zR0 Z I t u v τ Λ b ρ) : zQ2 kX11_rounds kX12_rounds [some (.ref 0)] [some (.ref 420), none, none, none, none] Z I J := by
  have h7 := h.n7
  obtain ⟨K, hKd⟩ : ∃ K, K = zKs τ ρ := ⟨_, rfl⟩
  have hK : ∀ m, m < 7 → K m < 128 := fun m _ => by rw [hKd]; exact zKs_lt h7 m
  obtain ⟨O, hO⟩ : ∃ O, O = zbs (zthr ρ true) (τ 0 0) := ⟨_, rfl⟩
  have hO128 : O < 128 := by rw [hO]; exact zbs_lt h7
  obtain ⟨I1, g1, g2, g3, g4⟩ := C_look (d := 7) (J := J) h
  rw [← hO] at g3
  have hKI : ∀ m, m < 7 → I1 403 m = nI (K m) ∧ K m < 128 := fun m hm => ⟨by rw [hKd]; exact (g4 m hm).2, hK m hm⟩
  have bit1 : ∀ a, a < 128 → ∀ m, m < 7 → (nI a &&& ((1 : Int32) <<< (nI m &&& 31)) = 0 ↔ a.testBit m = false) := fun a ha m hm => by
    rw [zb_one m hm, zb_and a ha _ (zb_p m hm), zn0 (Nat.lt_of_lt_of_le (zb_al ha) (by decide))]
    have : ∀ a, a < 128 → ∀ m, m < 7 → (a &&& 2 ^ m = 0 ↔ a.testBit m = false) := by decide +kernel
    exact this a ha m hm
  have cw : ∀ i, i ≤ 7 → ∀ (S : Nat) (n m : Nat) (o : zO), S < 128 → zE 9 kX7_countRounds 6 [some (.ref 401), some (.int (nI n)), some (.int (nI (zcl K (7 - i) S))), some (.int (nI (m + 1))), none] [] Z I1 J o → zE 9 kX7_countRounds 39 [some (.ref 401), some (.int (nI n)), some (.int (nI S)), some (.int (nI m)), some (.int (nI i))] [] Z I1 J o := by
    refine zloop _ _ ?_ ?_
    · intro S n m o hS ho
      exact BX7_countRounds_39 (d := 7) _ _ _ _ h.L ⟨fun _ => by rw [zadd1]; exact ho, fun q => absurd (by decide) q⟩
    · intro i hi ih S n m o hS ho
      rw [show 7 - i = (7 - (i + 1)) + 1 by omega] at ho
      simp only [zcl] at ho
      refine BX7_countRounds_39 (d := 7) _ _ _ _ h.L ⟨fun q => ?_, fun _ => ⟨_, C_widened h.L hKI hS, by rw [zadd1]; exact ih _ n m o (zwd_lt hS hK) ho⟩⟩
      exfalso; rw [show (7 : Int32) = nI 7 from rfl, zle' (by decide) (by omega)] at q; omega
  have cl : ∀ m, m ≤ 7 → ∀ (G n : Nat), G < 128 → zwd K G 7 = G → zE 9 kX7_countRounds 6 [some (.ref 401), some (.int (nI n)), some (.int (nI G)), some (.int (nI m)), none] [] Z I1 J (some (.int (nI (zrd K O (7 - m) m G n))), Z, I1, J) := by
    refine zloop _ _ ?_ ?_
    · intro G n hG hf
      exact BX7_countRounds_6 (d := 7) _ _ _ h.L ⟨fun _ => rfl, fun q => absurd (by decide) q⟩
    · intro m hm ih G n hG hf
      rw [show 7 - m = (7 - (m + 1)) + 1 by omega]
      simp only [zrd]
      have ebit : ((I1 401 3 &&& (nI G ^^^ (-1))) &&& ((1 : Int32) <<< (nI m &&& 31)) = 0) ↔ ¬ (O.testBit m = true ∧ G.testBit m = false) := by
        rw [g3, zb_sd hO128 hG, bit1 _ (zb_al hO128) m hm, zb_dt hm]
        cases O.testBit m <;> cases G.testBit m <;> simp
      refine BX7_countRounds_6 (d := 7) _ _ _ h.L ⟨fun q => ?_, fun _ => ⟨fun q => ?_, fun q y ey => ?_⟩⟩
      · exfalso; rw [show (7 : Int32) = nI 7 from rfl, zle' (by decide) (by omega)] at q; omega
      · rw [ebit] at q; rw [if_neg q, zadd1]; exact ih G n hG hf
      · rw [ebit] at q
        have q' := Classical.not_not.mp q
        rw [if_pos q']
        rw [zb_set hG hm] at ey
        rw [ey, zadd1]
        refine cw 0 (by decide) _ (n + 1) m _ (zb_lt hG (zb_p m hm)) ?_
        rw [Nat.sub_zero, zcl_or hK 7 _ _ hG (zb_p m hm), zcl_fix hf]
        exact ih _ _ (zb_lt hG (zcl_lt hK 7 _ (zb_p m hm))) (by rw [zwd_or hK hG (zcl_lt hK 7 _ (zb_p m hm)), hf, zcl_fx hK hm])
  have z0 : zwd K 0 7 = 0 := by
    refine zb_ext (zwd_lt (by decide) hK) (by decide) (fun o _ => ?_)
    rw [Bool.eq_iff_iff, zwd_bit]; simp
  have c0 := cl 0 (by decide) 0 0 (by decide) z0
  refine zQ2.of h _ ⟨I1, BX11_rounds_0 (d := 7) h.L ⟨I1, g1, _, BX7_countRounds_0 h.L c0, rfl⟩, g2⟩ (fun I2 h2 => ?_)
  obtain ⟨I3, k1, k2, k3, k4, k5⟩ := M_cop (d := 9) (J := J) h2
  obtain ⟨I4, l1, l2, l3⟩ := M_fillsWaits (d := 8) (J := J) k2 k3
  rw [← hO] at l1
  have hs4 : zscr I3 I4 := zscr.of fun a p _ => l3 a (fun e => p (by subst e; decide))
  have h4 := k2.sc hs4
  have r4 : zRM I4 458 0 ρ := fun k hk => by rw [l3 458 (by decide)]; exact k3 k hk
  have mw : ∀ i, i ≤ 7 → ∀ (S L n : Nat) (o : zO), S < 128 → zE 10 kX12_rounds 11 [some (.ref 420), some (.int (nI L &&& (nI (zcl K (7 - i) S) ^^^ (-1)))), some (.int (nI (n + 1))), none, none] [] Z I4 J o → zE 10 kX12_rounds 23 [some (.ref 420), some (.int (nI L)), some (.int (nI n)), some (.int (nI S)), some (.int (nI i))] [] Z I4 J o := by
    refine zloop _ _ ?_ ?_
    · intro S L n o hS ho
      exact BX12_rounds_23 (d := 7) _ _ _ _ h.L ⟨fun _ => by rw [zadd1]; exact ho, fun q => absurd (by decide) q⟩
    · intro i hi ih S L n o hS ho
      rw [show 7 - i = (7 - (i + 1)) + 1 by omega] at ho
      simp only [zcl] at ho
      refine BX12_rounds_23 (d := 7) _ _ _ _ h.L ⟨fun q => ?_, fun _ => ⟨nI (zwd K S 7), by rw [hKd]; exact M_linkedTo h4 r4 hS, by rw [zadd1]; exact ih _ L n o (zwd_lt hS hK) ho⟩⟩
      exfalso; rw [show (7 : Int32) = nI 7 from rfl, zle' (by decide) (by omega)] at q; omega
  -- men ahead of m who lie are all in a group
  have ml : ∀ m, m ≤ 7 → ∀ (G n : Nat), G < 128 → (∀ j, j < m → O.testBit j = true → G.testBit j = true) → zE 10 kX12_rounds 11 [some (.ref 420), some (.int (nI (O &&& (127 ^^^ G)))), some (.int (nI n)), none, none] [] Z I4 J (some (.int (nI (zrd K O (7 - m) m G n))), Z, I4, J) := by
    refine zloop _ _ ?_ ?_
    · intro G n hG hj
      have e0 : O &&& (127 ^^^ G) = 0 := by
        refine zb_ext (zb_al hO128) (by decide) (fun o ho => ?_)
        rw [zb_dt ho]
        cases hs : O.testBit o with
        | false => simp
        | true => rw [hj o ho hs]; simp
      rw [e0]
      exact BX12_rounds_11 (d := 7) _ _ h.L ⟨fun _ => rfl, fun q => absurd rfl q⟩
    · intro m hm ih G n hG hj
      rw [show 7 - m = (7 - (m + 1)) + 1 by omega]
      simp only [zrd]
      by_cases c : O.testBit m = true ∧ G.testBit m = false
      · rw [if_pos c]
        have hC := zcl_lt hK 7 _ (zb_p m hm)
        have bm : (O &&& (127 ^^^ G)).testBit m = true := by rw [zb_dt hm, c.1, c.2]; rfl
        have low := zb_low _ (zb_al (c := 127 ^^^ G) hO128) m hm bm (fun j hjm => by
          rw [zb_dt (by omega)]
          cases hs : O.testBit j with
          | false => simp
          | true => rw [hj j hjm hs]; simp)
        have ne0 : O &&& (127 ^^^ G) ≠ 0 := fun z => by rw [z] at bm; simp at bm
        refine BX12_rounds_11 (d := 7) _ _ h.L ⟨fun q => ?_, fun _ => ?_⟩
        · exfalso; rw [zn0 (Nat.lt_of_lt_of_le (zb_al hO128) (by decide))] at q; exact ne0 q
        · rw [low]
          refine mw 0 (by decide) _ _ n _ (zb_p m hm) ?_
          rw [Nat.sub_zero, zb_sd (zb_al hO128) hC]
          have e1 : O &&& (127 ^^^ G) &&& (127 ^^^ zcl K 7 (2 ^ m)) = O &&& (127 ^^^ (G ||| zcl K 7 (2 ^ m))) := by
            refine zb_ext (zb_al (zb_al hO128)) (zb_al hO128) (fun o ho => ?_)
            rw [zb_dt ho, zb_dt ho, zb_dt ho, Nat.testBit_or]
            cases O.testBit o <;> cases G.testBit o <;> cases (zcl K 7 (2 ^ m)).testBit o <;> rfl
          rw [e1]
          refine ih _ _ (zb_lt hG hC) (fun j hjm hs => ?_)
          rw [Nat.testBit_or]
          by_cases e : j = m
          · subst e
            rw [zwd_sub (by rw [zb_tp]; simp) 7, Bool.or_true]
          · rw [hj j (by omega) hs, Bool.true_or]
      · rw [if_neg c]
        refine ih G n hG (fun j hjm hs => ?_)
        by_cases e : j = m
        · subst e
          cases hg : G.testBit j with
          | true => rfl
          | false => exact absurd ⟨hs, hg⟩ c
        · exact hj j (by omega) hs
  have m0 := ml 0 (by decide) 0 0 (by decide) (fun j hj => absurd hj (by omega))
  have eO : O &&& (127 ^^^ 0) = O := by
    have : ∀ a, a < 128 → a &&& (127 ^^^ 0) = a := by decide +kernel
    exact this O hO128
  rw [eO] at m0
  exact ⟨I4, BX12_rounds_0 (d := 7) h2.L ⟨I3, k1, _, I4, l1, m0⟩, k5.tr hs4⟩
end
