/-! WAYS on the reference's side -/
section
variable {d : Nat} {Z : zZ} {J : zJ} {I I' : zI} {t u v b : Nat} {τ : Nat → Nat → Nat} {Λ : Nat → Option zLaw} {ρ : Nat → Nat}
theorem M_swap {p : Nat → Nat} {k a c : Nat} (h : ∀ i, i < k → I 463 i = nI (p i)) (ha : a < k) (hc : c < k) : ∀ i, i < k → zu (zu I 463 a (I 463 c)) 463 c (I 463 a) 463 i = nI (zswp p a c i) := by
  intro i hi
  unfold zswp
  by_cases e : i = c
  · subst e; rw [zu_eq, if_pos rfl]; exact h a ha
  · rw [zu_k e, if_neg e]
    by_cases e2 : i = a
    · subst e2; rw [zu_eq, if_pos rfl]; exact h c hc
    · rw [zu_k e2, if_neg e2]; exact h i hi
theorem M_turn (hL : zLY Z t u) {k : Nat} (hk : k ≤ 6) : ∀ (f a c : Nat) (p : Nat → Nat) (I : zI), c ≤ a + f → c < k → a ≤ 7 → (∀ i, i < k → I 463 i = nI (p i)) →
    ∃ I', zE d kX12_nextOrder 100 [some (.ref 420), none, none, none, none, some (.int (nI a)), some (.int (nI c))] [] Z I J (some (.int 1), Z, I', J) ∧ (∀ i, i < k → I' 463 i = nI (zrv f a c p i)) ∧ ∀ a, a ≠ 463 → I' a = I a := by
  intro f
  induction f with
  | zero =>
    intro a c p I h1 h2 h3 h
    exact ⟨I, BX12_nextOrder_100 _ _ hL ⟨fun _ => rfl, fun q => absurd ((zle' (by omega) (by omega)).mpr (by omega)) q⟩, h, fun _ _ => rfl⟩
  | succ f ih =>
    intro a c p I h1 h2 h3 h
    by_cases g : c ≤ a
    · refine ⟨I, BX12_nextOrder_100 _ _ hL ⟨fun _ => rfl, fun q => absurd ((zle' (by omega) (by omega)).mpr (by omega)) q⟩, ?_, fun _ _ => rfl⟩
      simp only [zrv, if_pos g]; exact h
    · have sw := M_swap (I := I) h (a := a) (c := c) (by omega) h2
      obtain ⟨I', k1, k2, k3⟩ := ih (a + 1) (c - 1) (zswp p a c) _ (by omega) (by omega) (by omega) sw
      refine ⟨I', BX12_nextOrder_100 _ _ hL ⟨fun q => ?_, fun _ => ⟨zvin (by omega) (by decide), zvin (by omega) (by decide), zvin (by omega) (by decide), fun I1 e1 => ⟨zvin (by omega) (by decide), fun I2 e2 => ?_⟩⟩⟩, ?_, fun b hb => by rw [k3 b hb, zu_ne hb, zu_ne hb]⟩
      · rw [zle' (by omega) (by omega)] at q; omega
      · rw [zclm (by omega), zclm (by omega)] at e1
        rw [zclm (by omega), zclm (by omega), e1] at e2
        rw [e2, zadd1, show nI c + (-1) = nI (c - 1) by
          obtain ⟨n, rfl⟩ : ∃ n, c = n + 1 := ⟨c - 1, by omega⟩
          rw [← Int32.sub_eq_add_neg, zsub1, Nat.add_sub_cancel]]
        exact k1
      · simp only [zrv, if_neg g]; exact k2
theorem M_nextOrder (hL : zLY Z t u) {k : Nat} (hk : k ≤ 6) {p : Nat → Nat} (hp : ∀ i, i < k → p i < 6) (h : ∀ i, i < k → I 463 i = nI (p i)) :
    ∃ I', zE d kX12_nextOrder 0 [some (.ref 420), some (.int (nI k)), none, none, none, none, none] [] Z I J (some (.int (nI (zno k p).isSome.toNat)), Z, I', J) ∧ (∀ q, zno k p = some q → ∀ i, i < k → I' 463 i = nI (q i)) ∧ ∀ a, a ≠ 463 → I' a = I a := by
  have s2 : ∀ j, j + 1 < k → p j ≤ p (j + 1) → ∀ i, j + 1 ≤ i → i < k → ∃ I', zE d kX12_nextOrder 41 [some (.ref 420), some (.int (nI k)), some (.int (nI j)), some (.int (nI i)), none, none, none] [] Z I J (some (.int 1), Z, I', J) ∧ (∀ i', i' < k → I' 463 i' = nI (zrv 6 (j + 1) (k - 1) (zswp p j (zn2 p j i)) i')) ∧ ∀ a, a ≠ 463 → I' a = I a := by
    intro j hj hjj i
    induction i with
    | zero => intro h1 _; omega
    | succ i ih =>
      intro h1 h2
      have hle : I 463 (nI j).toNatClampNeg ≤ I 463 (nI (i + 1)).toNatClampNeg ↔ p j ≤ p (i + 1) := by
        have := hp j (by omega)
        have := hp (i + 1) h2
        rw [zclm (by omega), zclm (by omega), h j (by omega), h (i + 1) h2, zle' (by omega) (by omega)]
      by_cases g : p j ≤ p (i + 1)
      · have sw := M_swap (I := I) h (a := j) (c := i + 1) (by omega) h2
        obtain ⟨I', k1, k2, k3⟩ := M_turn (d := d) (J := J) hL hk 6 (j + 1) (k - 1) (zswp p j (i + 1)) _ (by omega) (by omega) (by omega) sw
        refine ⟨I', BX12_nextOrder_41 _ _ _ hL ⟨zvin (by omega) (by decide), zvin (by omega) (by decide), fun _ => ⟨zvin (by omega) (by decide), zvin (by omega) (by decide), zvin (by omega) (by decide), fun I1 e1 => ⟨zvin (by omega) (by decide), fun I2 e2 => ?_⟩⟩, fun q => absurd (hle.mpr g) q⟩, ?_, fun b hb => by rw [k3 b hb, zu_ne hb, zu_ne hb]⟩
        · rw [zclm (by omega), zclm (by omega)] at e1
          rw [zclm (by omega), zclm (by omega), e1] at e2
          rw [e2, zadd1, show nI k - 1 = nI (k - 1) by
            obtain ⟨n, rfl⟩ : ∃ n, k = n + 1 := ⟨k - 1, by omega⟩
            rw [zsub1, Nat.add_sub_cancel]]
          exact k1
        · simp only [zn2, if_pos g]; exact k2
      · have hne : i ≠ j := fun e => g (by rw [e]; exact hjj)
        obtain ⟨I', k1, k2, k3⟩ := ih (by omega) (by omega)
        refine ⟨I', BX12_nextOrder_41 _ _ _ hL ⟨zvin (by omega) (by decide), zvin (by omega) (by decide), fun q => absurd (hle.mp q) g, fun _ => ?_⟩, ?_, k3⟩
        · rw [show nI (i + 1) + (-1) = nI i by rw [← Int32.sub_eq_add_neg, zsub1]]; exact k1
        · simp only [zn2, if_neg g]; exact k2
  have s1 : ∀ c, c ≤ k - 1 → ∀ x2 : Int32, (c = 0 → x2 < 0) → (∀ j, c = j + 1 → x2 = nI j) → ∃ I', zE d kX12_nextOrder 4 [some (.ref 420), some (.int (nI k)), some (.int x2), none, none, none, none] [] Z I J (some (.int (nI (match zn1 p c with | none => 0 | some _ => 1))), Z, I', J) ∧ (∀ j, zn1 p c = some j → ∀ i, i < k → I' 463 i = nI (zrv 6 (j + 1) (k - 1) (zswp p j (zn2 p j (k - 1))) i)) ∧ ∀ a, a ≠ 463 → I' a = I a := by
    intro c
    induction c with
    | zero =>
      intro _ x2 h0 _
      have := h0 rfl
      exact ⟨I, BX12_nextOrder_4 _ _ hL ⟨fun _ => ⟨fun q => absurd this (Int32.not_lt.mpr q), fun _ => rfl⟩, fun q => absurd this q⟩, fun j e => absurd e (by simp [zn1]), fun _ _ => rfl⟩
    | succ j ih =>
      intro hc x2 _ hx
      have ex := hx j rfl
      subst ex
      have h6j := hp j (by omega)
      have h6j1 := hp (j + 1) (by omega)
      have hle : I 463 (nI j).toNatClampNeg ≤ I 463 (nI j + 1).toNatClampNeg ↔ p j ≤ p (j + 1) := by
        rw [zadd1, zclm (by omega), zclm (by omega), h j (by omega), h (j + 1) (by omega), zle' (by omega) (by omega)]
      have nn : ¬ nI j < 0 := zneg (by omega)
      by_cases g : p j ≤ p (j + 1)
      · obtain ⟨I', k1, k2, k3⟩ := s2 j (by omega) g (k - 1) (by omega) (by omega)
        have ez : zn1 p (j + 1) = some j := by simp only [zn1, if_pos g]
        refine ⟨I', BX12_nextOrder_4 _ _ hL ⟨fun q => absurd q nn, fun _ => ⟨zvin (by omega) (by decide), by rw [zadd1]; exact zvin (by omega) (by decide), fun _ => ⟨fun _ => ?_, fun q => absurd (znn (by omega)) q⟩, fun q => absurd (hle.mpr g) q⟩⟩, fun j' e => ?_, k3⟩
        · rw [show nI k - 1 = nI (k - 1) by
            obtain ⟨n, rfl⟩ : ∃ n, k = n + 1 := ⟨k - 1, by omega⟩
            rw [zsub1, Nat.add_sub_cancel], ez]
          exact k1
        · rw [ez] at e
          obtain rfl : j = j' := by simpa using e
          exact k2
      · obtain ⟨I', k1, k2, k3⟩ := ih (by omega) (nI j + (-1)) (fun e => by rw [e]; decide) (fun j' e => by rw [e, ← Int32.sub_eq_add_neg, zsub1])
        have ez : zn1 p (j + 1) = zn1 p j := by simp only [zn1, if_neg g]
        rw [ez]
        exact ⟨I', BX12_nextOrder_4 _ _ hL ⟨fun q => absurd q nn, fun _ => ⟨zvin (by omega) (by decide), by rw [zadd1]; exact zvin (by omega) (by decide), fun q => absurd (hle.mp q) g, fun _ => k1⟩⟩, k2, k3⟩
  obtain ⟨I', k1, k2, k3⟩ := s1 (k - 1) (Nat.le_refl _) (nI k - 2) (fun e => by
      rcases (show k = 0 ∨ k = 1 by omega) with rfl | rfl <;> decide) (fun j e => by
      rw [show (2 : Int32) = nI 2 from rfl, zsub (by omega)]; congr 1; omega)
  refine ⟨I', BX12_nextOrder_0 _ hL ?_, fun q e => ?_, k3⟩
  · have : (match zn1 p (k - 1) with | none => 0 | some _ => 1) = (zno k p).isSome.toNat := by
      unfold zno; cases zn1 p (k - 1) <;> rfl
    rw [← this]; exact k1
  · unfold zno at e
    cases hz : zn1 p (k - 1) with
    | none => rw [hz] at e; exact absurd e (by simp)
    | some j =>
      rw [hz] at e
      obtain rfl : _ = q := by simpa using e
      exact k2 j hz
end
