/-! A PLAIN DAY, the reference's walks -/
section
variable {d : Nat} {Z : zZ} {J : zJ} {I I' : zI} {t u v b : Nat} {τ : Nat → Nat → Nat} {Λ : Nat → Option zLaw} {ρ : Nat → Nat}
/-- the reference's table up to a row -/
def zlR (I : zI) (R : Nat) (T : Nat → Nat → Nat) : Prop := ∀ r s, r ≤ R → s < 288 → I 466 (288 * r + s) = nI (T r s)
theorem zlR.put {T : Nat → Nat → Nat} {R s0 : Nat} (h : zlR I R T) (hs : s0 < 288) : zlR (zu I 466 (288 * R + s0) (nI (T R s0 + 1))) R (zbm T R (fun s => if s = s0 then 1 else 0)) := by
  intro r s hr hs'
  unfold zbm
  by_cases e : r = R
  · subst e
    rw [if_pos rfl]
    by_cases e3 : s = s0
    · subst e3; rw [zu_eq]; dsimp only; rw [if_pos rfl]
    · rw [zu_k (fun z => e3 (by omega))]; dsimp only; rw [if_neg e3, Nat.add_zero]; exact h r s hr hs'
  · rw [if_neg e, zu_k (by omega)]; exact h r s hr hs'
theorem zlR.congr {R : Nat} {T T' : Nat → Nat → Nat} (h : zlR I R T) (e : ∀ r s, r ≤ R → s < 288 → T' r s = T r s) : zlR I R T' := fun r s hr hs => by rw [e r s hr hs]; exact h r s hr hs
theorem M_goX (hL : zLY Z t u) {R m c i y ex k7 : Nat} (hR : R < 14) (hy : y < 12) (hex : ex < 12) (hk : k7 < 84) (x8 : Int32) : ∀ (n x : Nat) (T : Nat → Nat → Nat) (I : zI), (ex = x + n ∨ x = ex + n) → x < 12 → I 436 k7 = nI ex → zlR I R T →
    ∃ I1, zlR I1 R (zbm T R (zlx y x ex)) ∧ (∀ a, a ≠ 466 → I1 a = I a) ∧ ∀ o : zO, zE (d + 3) kX12_walks 260 [some (.ref 420), some (.int (nI m)), some (.int (nI c)), some (.int (nI (288 * R))), some (.int (nI ex)), some (.int (nI y)), some (.int (nI i)), some (.int (nI k7)), some (.int x8), none, none] [] Z I1 J o →
      zE (d + 3) kX12_walks 141 [some (.ref 420), some (.int (nI m)), some (.int (nI c)), some (.int (nI (288 * R))), some (.int (nI x)), some (.int (nI y)), some (.int (nI i)), some (.int (nI k7)), some (.int x8), some (.int 0), none] [] Z I J o := by
  intro n
  induction n with
  | zero =>
    intro x T I h1 hx he hl
    obtain rfl : x = ex := by omega
    refine ⟨I, by rw [zbm_0 (fun s => zlx_eq)]; exact hl, fun _ _ => rfl, fun o K => BX12_walks_141 _ _ _ _ _ _ _ _ _ hL ⟨fun _ => ⟨zvin hk (by decide), fun _ => K, fun q => ?_⟩, fun q => absurd rfl q⟩⟩
    exfalso; apply q; rw [zclm (by omega), he]
  | succ n ih =>
    intro x T I h1 hx he hl
    have hne : ¬ nI x = I 436 (nI k7).toNatClampNeg := by rw [zclm (by omega), he, zeq (by omega) (by omega)]; omega
    have hle : I 436 (nI k7).toNatClampNeg ≤ nI x ↔ ex ≤ x := by rw [zclm (by omega), he, zle' (by omega) (by omega)]
    rcases h1 with h1 | h1
    · have hz : zsn x y 2 = 12 * y + x := rfl
      have hi0 : nI (288 * R) + zsm (nI x) (nI y) 2 = nI (288 * R + (12 * y + x)) := by rw [show (2 : Int32) = nI 2 from rfl, zsmI (by decide) (by decide) (by omega) (by omega), zadd, hz]
      have hv : vp_in (nI (288 * R) + zsm (nI x) (nI y) 2) 4032 := by rw [hi0]; exact zvin (by omega) (by decide)
      obtain ⟨I1, k1, k2, k3⟩ := ih (x + 1) _ _ (Or.inl (by omega)) (by omega) (by rw [zu_ne (by decide)]; exact he) (hl.put (s0 := 12 * y + x) (by omega))
      refine ⟨I1, ?_, fun a ha => by rw [k2 a ha, zu_ne ha], fun o K => BX12_walks_141 _ _ _ _ _ _ _ _ _ hL ⟨fun _ => ⟨zvin hk (by decide), fun q => absurd q hne, fun _ => BX12_walks_173 _ _ _ _ _ _ _ _ _ hL ⟨fun _ => ⟨zvin hk (by decide), fun q => absurd (hle.mp q) (by omega), fun _ => ⟨hv, hv, fun I2 e2 => ?_⟩⟩, fun q => absurd rfl q⟩⟩, fun q => absurd rfl q⟩⟩
      · rw [zbm_bm] at k1
        rw [zbm_c (fun s => zlx_up (by omega) (by omega) hy)]; exact k1
      · rw [hi0, zclm (by omega), hl R _ (Nat.le_refl _) (by omega), zadd1] at e2
        rw [e2, show nI x + zdx 2 = nI (x + 1) by rw [show zdx 2 = (1 : Int32) by decide, zadd1], show nI y + zdy 2 = nI y by rw [show zdy 2 = (0 : Int32) by decide, Int32.add_zero]]
        exact k3 o K
    · have hz : zsn x y 4 = 12 * y + (x - 1) := rfl
      have hi0 : nI (288 * R) + zsm (nI x) (nI y) 4 = nI (288 * R + (12 * y + (x - 1))) := by rw [show (4 : Int32) = nI 4 from rfl, zsmI (by decide) (by decide) (by omega) (by omega), zadd, hz]
      have hv : vp_in (nI (288 * R) + zsm (nI x) (nI y) 4) 4032 := by rw [hi0]; exact zvin (by omega) (by decide)
      obtain ⟨I1, k1, k2, k3⟩ := ih (x - 1) _ _ (Or.inr (by omega)) (by omega) (by rw [zu_ne (by decide)]; exact he) (hl.put (s0 := 12 * y + (x - 1)) (by omega))
      refine ⟨I1, ?_, fun a ha => by rw [k2 a ha, zu_ne ha], fun o K => BX12_walks_141 _ _ _ _ _ _ _ _ _ hL ⟨fun _ => ⟨zvin hk (by decide), fun q => absurd q hne, fun _ => BX12_walks_173 _ _ _ _ _ _ _ _ _ hL ⟨fun _ => ⟨zvin hk (by decide), fun _ => ⟨hv, hv, fun I2 e2 => ?_⟩, fun q => absurd (hle.mpr (by omega)) q⟩, fun q => absurd rfl q⟩⟩, fun q => absurd rfl q⟩⟩
      · rw [zbm_bm] at k1
        rw [zbm_c (fun s => zlx_dn (by omega) (by omega) hy)]; exact k1
      · rw [hi0, zclm (by omega), hl R _ (Nat.le_refl _) (by omega), zadd1] at e2
        rw [e2, show nI x + zdx 4 = nI (x - 1) by rw [show zdx 4 = (-1 : Int32) by decide, ← Int32.sub_eq_add_neg, show (1 : Int32) = nI 1 from rfl, zsub (by omega)], show nI y + zdy 4 = nI y by rw [show zdy 4 = (0 : Int32) by decide, Int32.add_zero]]
        exact k3 o K
theorem M_goY (hL : zLY Z t u) {R m c i x ey k7 : Nat} (hR : R < 14) (hx : x < 12) (hey : ey < 12) (hk : k7 < 84) (x8 : Int32) : ∀ (n y : Nat) (T : Nat → Nat → Nat) (I : zI), (ey = y + n ∨ y = ey + n) → y < 12 → I 437 k7 = nI ey → zlR I R T →
    ∃ I1, zlR I1 R (zbm T R (zly x y ey)) ∧ (∀ a, a ≠ 466 → I1 a = I a) ∧ ∀ o : zO, zE (d + 3) kX12_walks 260 [some (.ref 420), some (.int (nI m)), some (.int (nI c)), some (.int (nI (288 * R))), some (.int (nI x)), some (.int (nI ey)), some (.int (nI i)), some (.int (nI k7)), some (.int x8), none, none] [] Z I1 J o →
      zE (d + 3) kX12_walks 141 [some (.ref 420), some (.int (nI m)), some (.int (nI c)), some (.int (nI (288 * R))), some (.int (nI x)), some (.int (nI y)), some (.int (nI i)), some (.int (nI k7)), some (.int x8), some (.int 1), none] [] Z I J o := by
  intro n
  induction n with
  | zero =>
    intro y T I h1 hy he hl
    obtain rfl : y = ey := by omega
    refine ⟨I, by rw [zbm_0 (fun s => zly_eq)]; exact hl, fun _ _ => rfl, fun o K => BX12_walks_141 _ _ _ _ _ _ _ _ _ hL ⟨fun q => absurd q (by decide), fun _ => ⟨zvin hk (by decide), fun _ => K, fun q => ?_⟩⟩⟩
    exfalso; apply q; rw [zclm (by omega), he]
  | succ n ih =>
    intro y T I h1 hy he hl
    have hne : ¬ nI y = I 437 (nI k7).toNatClampNeg := by rw [zclm (by omega), he, zeq (by omega) (by omega)]; omega
    have hle : I 437 (nI k7).toNatClampNeg ≤ nI y ↔ ey ≤ y := by rw [zclm (by omega), he, zle' (by omega) (by omega)]
    rcases h1 with h1 | h1
    · have hz : zsn x y 1 = 144 + (12 * y + x) := rfl
      have hi0 : nI (288 * R) + zsm (nI x) (nI y) 1 = nI (288 * R + (144 + (12 * y + x))) := by rw [show (1 : Int32) = nI 1 from rfl, zsmI (by decide) (by decide) (by omega) (by omega), zadd, hz]
      have hv : vp_in (nI (288 * R) + zsm (nI x) (nI y) 1) 4032 := by rw [hi0]; exact zvin (by omega) (by decide)
      obtain ⟨I1, k1, k2, k3⟩ := ih (y + 1) _ _ (Or.inl (by omega)) (by omega) (by rw [zu_ne (by decide)]; exact he) (hl.put (s0 := 144 + (12 * y + x)) (by omega))
      refine ⟨I1, ?_, fun a ha => by rw [k2 a ha, zu_ne ha], fun o K => BX12_walks_141 _ _ _ _ _ _ _ _ _ hL ⟨fun q => absurd q (by decide), fun _ => ⟨zvin hk (by decide), fun q => absurd q hne, fun _ => BX12_walks_173 _ _ _ _ _ _ _ _ _ hL ⟨fun q => absurd q (by decide), fun _ => ⟨zvin hk (by decide), fun q => absurd (hle.mp q) (by omega), fun _ => ⟨hv, hv, fun I2 e2 => ?_⟩⟩⟩⟩⟩⟩
      · rw [zbm_bm] at k1
        rw [zbm_c (fun s => zly_up (by omega) (by omega) hx)]; exact k1
      · rw [hi0, zclm (by omega), hl R _ (Nat.le_refl _) (by omega), zadd1] at e2
        rw [e2, show nI y + zdy 1 = nI (y + 1) by rw [show zdy 1 = (1 : Int32) by decide, zadd1], show nI x + zdx 1 = nI x by rw [show zdx 1 = (0 : Int32) by decide, Int32.add_zero]]
        exact k3 o K
    · have hz : zsn x y 3 = 144 + (12 * (y - 1) + x) := rfl
      have hi0 : nI (288 * R) + zsm (nI x) (nI y) 3 = nI (288 * R + (144 + (12 * (y - 1) + x))) := by rw [show (3 : Int32) = nI 3 from rfl, zsmI (by decide) (by decide) (by omega) (by omega), zadd, hz]
      have hv : vp_in (nI (288 * R) + zsm (nI x) (nI y) 3) 4032 := by rw [hi0]; exact zvin (by omega) (by decide)
      obtain ⟨I1, k1, k2, k3⟩ := ih (y - 1) _ _ (Or.inr (by omega)) (by omega) (by rw [zu_ne (by decide)]; exact he) (hl.put (s0 := 144 + (12 * (y - 1) + x)) (by omega))
      refine ⟨I1, ?_, fun a ha => by rw [k2 a ha, zu_ne ha], fun o K => BX12_walks_141 _ _ _ _ _ _ _ _ _ hL ⟨fun q => absurd q (by decide), fun _ => ⟨zvin hk (by decide), fun q => absurd q hne, fun _ => BX12_walks_173 _ _ _ _ _ _ _ _ _ hL ⟨fun q => absurd q (by decide), fun _ => ⟨zvin hk (by decide), fun _ => ⟨hv, hv, fun I2 e2 => ?_⟩, fun q => absurd (hle.mpr (by omega)) q⟩⟩⟩⟩⟩
      · rw [zbm_bm] at k1
        rw [zbm_c (fun s => zly_dn (by omega) (by omega) hx)]; exact k1
      · rw [hi0, zclm (by omega), hl R _ (Nat.le_refl _) (by omega), zadd1] at e2
        rw [e2, show nI y + zdy 3 = nI (y - 1) by rw [show zdy 3 = (-1 : Int32) by decide, ← Int32.sub_eq_add_neg, show (1 : Int32) = nI 1 from rfl, zsub (by omega)], show nI x + zdx 3 = nI x by rw [show zdx 3 = (0 : Int32) by decide, Int32.add_zero]]
        exact k3 o K
end
